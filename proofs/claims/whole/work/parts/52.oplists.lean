/-! the reference's move as a list of operations; GREATEST covers all tests and limits -/
def itL {α : Type} (f : Nat → List α) : Nat → Nat → List α
  | _, 0 => []
  | k, d + 1 => f k ++ itL f (k + 1) d
theorem itL_mem {α : Type} {f : Nat → List α} : ∀ d k o, o ∈ itL f k d → ∃ j, k ≤ j ∧ j < k + d ∧ o ∈ f j := by
  intro d
  induction d with
  | zero => intro k o h; cases h
  | succ d ih =>
    intro k o h
    rcases List.mem_append.mp h with g | g
    · exact ⟨k, Nat.le_refl _, by omega, g⟩
    · obtain ⟨j, a, b, c⟩ := ih (k + 1) o g
      exact ⟨j, by omega, by omega, c⟩
theorem it_run (m : Nat) (f : Nat → List Op) : ∀ d k q, it (fun k q => runQ m (f k) q) k d q = runQ m (itL f k d) q := by
  intro d
  induction d with
  | zero => intro k q; rfl
  | succ d ih =>
    intro k q
    show it (fun k q => runQ m (f k) q) (k + 1) d (runQ m (f k) q) = runQ m (f k ++ itL f (k + 1) d) q
    rw [ih, runQ_app]
def limL (σ : mS) (p : Nat → Nat) : List Op := itL (fun a => itL (fun l => [(Sum.inl (N (σ 5 (2 * (6 * a + p a) + l)), 0, σ 6 (2 * (6 * a + p a) + l)) : Op)]) 0 (N (σ 4 (6 * a + p a)))) 0 (N (σ 1 0))
def tstL (σ : mS) (x : Nat) : List Op := itL (fun t => [(Sum.inl (N (σ 12 (3 * x + t)), N (σ 13 (3 * x + t)), σ 14 (3 * x + t)) : Op)]) 0 (N (σ 11 x))
theorem ql_run (σ : mS) (m : Nat) (p : Nat → Nat) (q : zQ) : ql σ m p q = runQ m (limL σ p) q := by
  unfold ql limL
  rw [← it_run]
  refine it_cg (hi := N (σ 1 0)) (fun a q _ => ?_) _ 0 q (by omega)
  unfold ql1
  rw [← it_run]
  rfl
theorem qt_run (σ : mS) (m x : Nat) (q : zQ) : qt σ m x q = runQ m (tstL σ x) q := by
  unfold qt tstL
  rw [← it_run]
  rfl
def arL (σ : mS) (p : Nat → Nat) : List Op := limL σ p ++ ((Sum.inr none : Op) :: limL σ p)
theorem qar_run (σ : mS) (m : Nat) (p : Nat → Nat) (q : zQ) : qar σ m p q = runQ m (arL σ p) q := by
  unfold qar arL
  rw [runQ_app, ql_run, ql_run]
  rfl
def goL (σ : mS) (v : Mv) : List Op := match v.2.2 with
  | none => tstL σ (12 * v.1 + v.2.1) ++ [(Sum.inr (some (σ 10 (12 * v.1 + v.2.1) ||| 0)) : Op)]
  | some t => tstL σ (12 * v.1 + v.2.1) ++ (tstL σ (12 * t.1 + t.2) ++ [(Sum.inr (some (σ 10 (12 * v.1 + v.2.1) ||| σ 10 (12 * t.1 + t.2))) : Op)])
theorem mGZ_run (σ : mS) (v : Mv) (m : Nat) (q : zQ) : mGZ σ v m q = runQ m (goL σ v) q := by
  obtain ⟨a, w, o⟩ := v
  cases o with
  | none =>
    show q1m σ m a w q = runQ m (tstL σ (12 * a + w) ++ [(Sum.inr (some (σ 10 (12 * a + w) ||| 0)) : Op)]) q
    unfold q1m
    rw [runQ_app, qt_run]
    rfl
  | some t =>
    show q2m σ m a w t.1 t.2 q = runQ m (tstL σ (12 * a + w) ++ (tstL σ (12 * t.1 + t.2) ++ [(Sum.inr (some (σ 10 (12 * a + w) ||| σ 10 (12 * t.1 + t.2))) : Op)])) q
    unfold q2m
    rw [runQ_app, runQ_app, qt_run, qt_run]
    rfl
/-- a move's operations -/
def mvOps (σ : mS) (v : Mv) (p : Nat → Nat) : List Op := goL σ v ++ arL σ p
theorem mv_run (σ : mS) (v : Mv) (p : Nat → Nat) (m : Nat) (q : zQ) : qar σ m p (mGZ σ v m q) = runQ m (mvOps σ v p) q := by
  unfold mvOps
  rw [runQ_app, qar_run, mGZ_run]
theorem np_app (L K : List Op) : np (L ++ K) = np L + np K := by
  induction L with
  | nil => show np K = 0 + np K; omega
  | cons o L ih =>
    rcases o with t | t | c
    · show np (L ++ K) = np L + np K; exact ih
    · show np (L ++ K) + 101 = np L + 101 + np K; omega
    · show np (L ++ K) = np L + np K; exact ih
theorem np_itL {f : Nat → List Op} (h : ∀ k, np (f k) = 0) : ∀ d k, np (itL f k d) = 0 := by
  intro d
  induction d with
  | zero => intro k; rfl
  | succ d ih =>
    intro k
    show np (f k ++ itL f (k + 1) d) = 0
    rw [np_app, h, ih]
    rfl
theorem np_limL (σ : mS) (p : Nat → Nat) : np (limL σ p) = 0 := np_itL (fun _ => np_itL (fun _ => rfl) _ _) _ _
theorem np_tstL (σ : mS) (x : Nat) : np (tstL σ x) = 0 := np_itL (fun _ => rfl) _ _
theorem np_arL (σ : mS) (p : Nat → Nat) : np (arL σ p) = 101 := by
  unfold arL
  rw [np_app, np_limL]
  show 0 + (np (limL σ p) + 101) = 101
  rw [np_limL]
  rfl
theorem np_goL (σ : mS) (v : Mv) : np (goL σ v) = 0 := by
  obtain ⟨a, w, o⟩ := v
  cases o with
  | none =>
    show np (tstL σ _ ++ _) = 0
    rw [np_app, np_tstL]
    rfl
  | some t =>
    show np (tstL σ _ ++ (tstL σ _ ++ _)) = 0
    rw [np_app, np_app, np_tstL, np_tstL]
    rfl
theorem np_mvOps (σ : mS) (v : Mv) (p : Nat → Nat) : np (mvOps σ v p) = 101 := by
  unfold mvOps
  rw [np_app, np_goL, np_arL]
  rfl
/-- the yard's numbers -/
def WV (σ : mS) : Prop := (∀ x l, x < 18 → l < N (σ 4 x) → 1 ≤ N (σ 5 (2 * x + l)) ∧ mk1 100 (σ 6 (2 * x + l)).toInt ∧ 0 ≤ (σ 6 (2 * x + l)).toInt / 2) ∧ ∀ x t, x < 36 → t < N (σ 11 x) → N (σ 12 (3 * x + t)) ≠ N (σ 13 (3 * x + t)) ∧ mk1 100 (σ 14 (3 * x + t)).toInt
theorem WV.eq {σ ρ : mS} (h : WV ρ) (e : yq σ ρ) : WV σ := by
  refine ⟨fun x l hx hl => ?_, fun x t hx ht => ?_⟩
  · rw [e 4 x (by decide) (by decide)] at hl
    rw [e 5 _ (by decide) (by decide), e 6 _ (by decide) (by decide)]
    exact h.1 x l hx hl
  · rw [e 11 x (by decide) (by decide)] at ht
    rw [e 12 _ (by decide) (by decide), e 13 _ (by decide) (by decide), e 14 _ (by decide) (by decide)]
    exact h.2 x t hx ht
theorem limL_V {σ : mS} (hW : WY σ) (hV : WV σ) {p : Nat → Nat} (hp : ∀ a, a < N (σ 1 0) → p a < 6) : ∀ o, o ∈ limL σ p → opV o := by
  intro o ho
  obtain ⟨a, _, ha, h1⟩ := itL_mem _ _ _ ho
  obtain ⟨l, _, hl, h2⟩ := itL_mem _ _ _ h1
  rw [List.mem_singleton.mp h2]
  have hB := hW.1.2
  have hpa := hp a (by omega)
  have hx : 6 * a + p a < 18 := by omega
  have hL := (hW.2.2.1 (6 * a + p a) hx).2
  have hv := hV.1 (6 * a + p a) l hx (by omega)
  have hc := (hW.2.2.2.1 (2 * (6 * a + p a) + l) (by omega)).2
  exact ⟨show N (σ 5 (2 * (6 * a + p a) + l)) < 4 by omega, show 0 < 4 by omega, show N (σ 5 (2 * (6 * a + p a) + l)) ≠ 0 by omega, hv.2.1⟩
theorem tstL_V {σ : mS} (hW : WY σ) (hV : WV σ) {x : Nat} (hx : x < 36) : ∀ o, o ∈ tstL σ x → opV o := by
  intro o ho
  obtain ⟨t, _, ht, h1⟩ := itL_mem _ _ _ ho
  rw [List.mem_singleton.mp h1]
  have hL := (hW.2.2.2.2.1 x hx).2.2.2
  have hv := hV.2 x t hx (by omega)
  have hc := hW.2.2.2.2.2 (3 * x + t) (by omega)
  have c1 := hc.1.2
  have c2 := hc.2.2
  exact ⟨show N (σ 12 (3 * x + t)) < 4 by omega, show N (σ 13 (3 * x + t)) < 4 by omega, hv.1, hv.2⟩
theorem arL_V {σ : mS} (hW : WY σ) (hV : WV σ) {p : Nat → Nat} (hp : ∀ a, a < N (σ 1 0) → p a < 6) : ∀ o, o ∈ arL σ p → opV o := by
  intro o ho
  rcases List.mem_append.mp ho with h | h
  · exact limL_V hW hV hp o h
  · rcases List.mem_cons.mp h with h | h
    · rw [h]; exact trivial
    · exact limL_V hW hV hp o h
theorem goL_V {σ : mS} (hW : WY σ) (hV : WV σ) {v : Mv} (hv : mOk v) : ∀ o, o ∈ goL σ v → opV o := by
  intro o ho
  obtain ⟨a, w, b⟩ := v
  have h1 : a < 3 := hv.1
  have h2 : w < 12 := hv.2.1
  cases b with
  | none =>
    rcases List.mem_append.mp ho with h | h
    · exact tstL_V hW hV (by show 12 * a + w < 36; omega) o h
    · rw [List.mem_singleton.mp h]; exact trivial
  | some t =>
    have h3 : t.1 < 3 := hv.2.2.1
    have h4 : t.2 < 12 := hv.2.2.2
    rcases List.mem_append.mp ho with h | h
    · exact tstL_V hW hV (by show 12 * a + w < 36; omega) o h
    · rcases List.mem_append.mp h with h | h
      · exact tstL_V hW hV (by omega) o h
      · rw [List.mem_singleton.mp h]; exact trivial
theorem mvOps_V {σ : mS} (hW : WY σ) (hV : WV σ) {v : Mv} (hv : mOk v) {p : Nat → Nat} (hp : ∀ a, a < N (σ 1 0) → p a < 6) : ∀ o, o ∈ mvOps σ v p → opV o := by
  intro o ho
  rcases List.mem_append.mp ho with h | h
  · exact goL_V hW hV hv o h
  · exact arL_V hW hV hp o h
/-! GREATEST -/
theorem it_cov {S : Type} {body : Nat → S → S} {Bs : S → Prop} {le : S → S → Prop} {C : Nat → S → Prop} (re : ∀ s, le s s) (tr : ∀ s t u, le s t → le t u → le s u) (mo : ∀ k s t, C k s → le s t → C k t) {lo hi : Nat} (step : ∀ k s, lo ≤ k → k < hi → Bs s → Bs (body k s) ∧ le s (body k s) ∧ C k (body k s)) : ∀ d k s, lo ≤ k → k + d = hi → Bs s → Bs (it body k d s) ∧ le s (it body k d s) ∧ ∀ j, k ≤ j → j < hi → C j (it body k d s) := by
  intro d
  induction d with
  | zero => intro k s _ hk h; exact ⟨h, re s, fun j h1 h2 => by omega⟩
  | succ d ih =>
    intro k s hlo hk h
    obtain ⟨a, b, c⟩ := step k s hlo (by omega) h
    obtain ⟨x, y, z⟩ := ih (k + 1) (body k s) (by omega) (by omega) a
    refine ⟨x, tr _ _ _ b y, fun j h1 h2 => ?_⟩
    by_cases e : j = k
    · rw [e]; exact mo k _ _ c y
    · exact z j (by omega) h2
abbrev gS : Type := (Nat → Int32) × Int32
def gB (S : gS) : Prop := (∀ b, b < 4 → 0 ≤ (S.1 b).toInt ∧ (S.1 b).toInt ≤ 100) ∧ (S.1 0).toInt = 0
def gLe (S T : gS) : Prop := (∀ b, b < 4 → (S.1 b).toInt ≤ (T.1 b).toInt) ∧ (S.2 = 0 → T.2 = 0)
theorem gLe.re (S : gS) : gLe S S := ⟨fun _ _ => Int.le_refl _, fun h => h⟩
theorem gLe.tr (S T U : gS) (h : gLe S T) (g : gLe T U) : gLe S U := ⟨fun b hb => Int.le_trans (h.1 b hb) (g.1 b hb), fun t => g.2 (h.2 t)⟩
theorem mx_int (c g : Int32) : (mx c g).toInt = max c.toInt g.toInt := by
  unfold mx
  by_cases h : c ≤ g
  · rw [if_pos h]
    have := i32_le.mp h
    omega
  · rw [if_neg h]
    have : ¬ (c.toInt ≤ g.toInt) := fun t => h (i32_le.mpr t)
    omega
theorem gB_up {S : gS} (h : gB S) {k : Nat} (hk1 : 1 ≤ k) (hk : k < 4) {c : Int32} (hc : c.toInt ≤ 100) (L : Int32) (hL : S.2 = 0 → L = 0) : gB (fu S.1 k (mx c (S.1 k)), L) ∧ gLe S (fu S.1 k (mx c (S.1 k)), L) ∧ c.toInt ≤ ((fu S.1 k (mx c (S.1 k))) k).toInt := by
  have e : ∀ b, (fu S.1 k (mx c (S.1 k)) b).toInt = if b = k then max c.toInt (S.1 k).toInt else (S.1 b).toInt := fun b => by
    unfold fu
    by_cases hb : b = k
    · rw [if_pos hb, if_pos hb, mx_int]
    · rw [if_neg hb, if_neg hb]
  have hkk := h.1 k hk
  refine ⟨⟨fun b hb => ?_, ?_⟩, ⟨fun b hb => ?_, hL⟩, ?_⟩
  · show 0 ≤ (fu S.1 k (mx c (S.1 k)) b).toInt ∧ (fu S.1 k (mx c (S.1 k)) b).toInt ≤ 100
    rw [e]
    have := h.1 b hb
    split <;> omega
  · show (fu S.1 k (mx c (S.1 k)) 0).toInt = 0
    rw [e, if_neg (by omega)]
    exact h.2
  · show (S.1 b).toInt ≤ (fu S.1 k (mx c (S.1 k)) b).toInt
    rw [e]
    split
    · rename_i t; rw [t]; omega
    · exact Int.le_refl _
  · rw [e, if_pos rfl]
    omega
def cLim (σ : mS) (a p l : Nat) (S : gS) : Prop := (σ 6 (2 * (6 * a + p) + l)).toInt / 2 ≤ (S.1 (N (σ 5 (2 * (6 * a + p) + l)))).toInt
def cTst (σ : mS) (x : Nat) (S : gS) : Prop := x % 3 < N (σ 11 (x / 3)) → (S.2 = 0 ∨ σ 12 x = 0 ∨ σ 13 x = 0) ∧ mk1 (S.1 (fk σ x)).toInt (σ 14 x).toInt
theorem fk_lt {σ : mS} (hW : WY σ) (hV : WV σ) {x : Nat} (hx : x < 108) (h : x % 3 < N (σ 11 (x / 3))) : 1 ≤ fk σ x ∧ fk σ x < 4 := by
  have c := hW.2.2.2.2.2 x hx
  have c1 := c.1.2
  have c2 := c.2.2
  have v := (hV.2 (x / 3) (x % 3) (by omega) h).1
  have e : 3 * (x / 3) + x % 3 = x := by omega
  rw [e] at v
  unfold fk
  by_cases g : σ 12 x = 0
  · rw [if_pos g]
    have z : N (σ 12 x) = 0 := by rw [g]; rfl
    omega
  · rw [if_neg g]
    refine ⟨?_, by omega⟩
    rcases Nat.eq_zero_or_pos (N (σ 12 x)) with t | t
    · exfalso
      apply g
      have := c.1.1
      rw [t] at this
      exact this
    · exact t
theorem fgA_ok {σ : mS} (hW : WY σ) (hV : WV σ) : gB (fgA σ) ∧ ∀ a, a < N (σ 1 0) → (∀ p, p < N (σ 2 a) → ∀ l, l < N (σ 4 (6 * a + p)) → cLim σ a p l (fgA σ)) ∧ ∀ x, 36 * a ≤ x → x < 36 * a + 3 * N (σ 3 a) → cTst σ x (fgA σ) := by
  have hB := hW.1.2
  have moL : ∀ a p l S T, p < 6 → a < 3 → l < 2 → cLim σ a p l S → gLe S T → cLim σ a p l T := fun a p l S T hp ha hl h g => by
    have hc := (hW.2.2.2.1 (2 * (6 * a + p) + l) (by omega)).2
    unfold cLim at h ⊢
    exact Int.le_trans h (g.1 _ (by omega))
  have moT : ∀ x S T, x < 108 → cTst σ x S → gLe S T → cTst σ x T := fun x S T hx h g hm => by
    have k := fk_lt hW hV hx hm
    obtain ⟨h1, h2⟩ := h hm
    refine ⟨h1.elim (fun t => Or.inl (g.2 t)) Or.inr, ?_⟩
    have := g.1 (fk σ x) k.2
    unfold mk1 at h2 ⊢
    omega
  have stepL : ∀ a p, a < 3 → p < 6 → ∀ S, gB S → gB (fd σ (6 * a + p) S.1, S.2) ∧ gLe S (fd σ (6 * a + p) S.1, S.2) ∧ ∀ l, l < N (σ 4 (6 * a + p)) → cLim σ a p l (fd σ (6 * a + p) S.1, S.2) := by
    intro a p ha hp S hS
    have hL := (hW.2.2.1 (6 * a + p) (by omega)).2
    have r := it_cov (body := fd1 σ (6 * a + p)) (Bs := fun G => gB (G, S.2)) (le := fun G H => gLe (G, S.2) (H, S.2)) (C := fun l G => l < 2 → cLim σ a p l (G, S.2)) (fun G => gLe.re _) (fun G H I => gLe.tr _ _ _) (fun l G H h g hl => moL a p l _ _ hp ha hl (h hl) g) (lo := 0) (hi := N (σ 4 (6 * a + p))) (fun l G _ hl hG => by
      have v := hV.1 (6 * a + p) l (by omega) hl
      have hc := (hW.2.2.2.1 (2 * (6 * a + p) + l) (by omega)).2
      have m1 := v.2.1
      unfold mk1 at m1
      have u := gB_up (S := (G, S.2)) hG v.1 (by omega) (c := σ 6 (2 * (6 * a + p) + l) >>> ((1 : Int32) &&& 31)) (by rw [shr1]; omega) S.2 (fun t => t)
      refine ⟨u.1, u.2.1, fun _ => ?_⟩
      have := u.2.2
      rw [shr1] at this
      exact this) (N (σ 4 (6 * a + p))) 0 S.1 (Nat.le_refl _) (by omega) hS
    exact ⟨r.1, r.2.1, fun l hl => r.2.2 l (by omega) hl (by omega)⟩
  have stepT : ∀ x, x < 108 → ∀ S, gB S → gB (ft σ x S) ∧ gLe S (ft σ x S) ∧ cTst σ x (ft σ x S) := by
    intro x hx S hS
    unfold ft
    by_cases hm : x % 3 < N (σ 11 (x / 3))
    · rw [if_pos hm]
      have k := fk_lt hW hV hx hm
      have v := (hV.2 (x / 3) (x % 3) (by omega) hm).2
      have e : 3 * (x / 3) + x % 3 = x := by omega
      rw [e] at v
      unfold mk1 at v
      have fa : (fab (σ 14 x >>> ((1 : Int32) &&& 31))).toInt = max ((σ 14 x).toInt / 2) (-((σ 14 x).toInt / 2)) := by
        unfold fab
        by_cases g : 0 ≤ σ 14 x >>> ((1 : Int32) &&& 31)
        · rw [if_pos g, shr1]
          have := i32_le.mp g
          rw [shr1] at this
          have z : (0 : Int32).toInt = 0 := by decide
          omega
        · rw [if_neg g, Int32.toInt_neg, shr1, bm_id (by omega) (by omega)]
          have : ¬ ((0 : Int32).toInt ≤ (σ 14 x >>> ((1 : Int32) &&& 31)).toInt) := fun t => g (i32_le.mpr t)
          rw [shr1] at this
          have z : (0 : Int32).toInt = 0 := by decide
          omega
      have u := gB_up hS k.1 k.2 (c := fab (σ 14 x >>> ((1 : Int32) &&& 31))) (by rw [fa]; omega) (if S.2 = 0 then 0 else if σ 12 x = 0 then 1 else if σ 13 x = 0 then 1 else 0) (fun t => by rw [if_pos t])
      refine ⟨u.1, u.2.1, fun _ => ⟨?_, ?_⟩⟩
      · show (if S.2 = 0 then (0 : Int32) else if σ 12 x = 0 then 1 else if σ 13 x = 0 then 1 else 0) = 0 ∨ _
        by_cases h0 : S.2 = 0
        · left; rw [if_pos h0]
        · by_cases h1 : σ 12 x = 0
          · right; left; exact h1
          · by_cases h2 : σ 13 x = 0
            · right; right; exact h2
            · left; rw [if_neg h0, if_neg h1, if_neg h2]
      · have := u.2.2
        rw [fa] at this
        unfold mk1
        dsimp only
        omega
    · rw [if_neg hm]
      exact ⟨hS, gLe.re S, fun t => absurd t hm⟩
  have r := it_cov (body := fun a S => fgT σ a (fgP σ a S)) (Bs := gB) (le := gLe) (C := fun a S => a < 3 → (∀ p, p < N (σ 2 a) → ∀ l, l < N (σ 4 (6 * a + p)) → cLim σ a p l S) ∧ ∀ x, 36 * a ≤ x → x < 36 * a + 3 * N (σ 3 a) → cTst σ x S) gLe.re gLe.tr (fun a S T h g ha => by
    have hp := (hW.2.1 a ha).1.2
    have hw := (hW.2.1 a ha).2.2
    refine ⟨fun p hpp l hl => ?_, fun x h1 h2 => moT x S T (by omega) ((h ha).2 x h1 h2) g⟩
    have hL := (hW.2.2.1 (6 * a + p) (by omega)).2
    exact moL a p l S T (by omega) ha (by omega) ((h ha).1 p hpp l hl) g) (lo := 0) (hi := N (σ 1 0)) (fun a S _ ha hS => by
    have hp := (hW.2.1 a (by omega)).1.2
    have hw := (hW.2.1 a (by omega)).2.2
    have r1 := it_cov (body := fun p S => (fd σ (6 * a + p) S.1, S.2)) (Bs := gB) (le := gLe) (C := fun p S => p < 6 → ∀ l, l < N (σ 4 (6 * a + p)) → cLim σ a p l S) gLe.re gLe.tr (fun p S T h g hpp l hl => by
      have hL := (hW.2.2.1 (6 * a + p) (by omega)).2
      exact moL a p l S T hpp (by omega) (by omega) (h hpp l hl) g) (lo := 0) (hi := N (σ 2 a)) (fun p S _ hpp hS => by
      have u := stepL a p (by omega) (by omega) S hS
      exact ⟨u.1, u.2.1, fun _ => u.2.2⟩) (N (σ 2 a)) 0 S (Nat.le_refl _) (by omega) hS
    have r2 := it_cov (body := ft σ) (Bs := gB) (le := gLe) (C := fun x S => x < 108 → cTst σ x S) gLe.re gLe.tr (fun x S T h g hx => moT x S T hx (h hx) g) (lo := 36 * a) (hi := 36 * a + 3 * N (σ 3 a)) (fun x S h1 h2 hS => by
      have u := stepT x (by omega) S hS
      exact ⟨u.1, u.2.1, fun _ => u.2.2⟩) (3 * N (σ 3 a)) (36 * a) (fgP σ a S) (Nat.le_refl _) (by omega) r1.1
    refine ⟨r2.1, gLe.tr _ _ _ r1.2.1 r2.2.1, fun _ => ⟨fun p hpp l hl => ?_, fun x h1 h2 => r2.2.2 x h1 h2 (by omega)⟩⟩
    have hL := (hW.2.2.1 (6 * a + p) (by omega)).2
    exact moL a p l _ _ (by omega) (by omega) (by omega) (r1.2.2 p (by omega) hpp (by omega) l hl) r2.2.1) (N (σ 1 0)) 0 ((fun b => if b < 4 then 0 else σ 19 b), 1) (Nat.le_refl _) (by omega) ⟨fun b hb => by
      show 0 ≤ (if b < 4 then (0 : Int32) else σ 19 b).toInt ∧ (if b < 4 then (0 : Int32) else σ 19 b).toInt ≤ 100
      rw [if_pos hb]
      decide, by show (0 : Int32).toInt = 0; decide⟩
  exact ⟨r.1, fun a ha => r.2.2 a (by omega) ha (by omega)⟩
