/-! THE CLASS's zone operations in integers; runs of them -/
def cel (n : Nat) (f : Nat → Int32) : Nat → Int32 := it (fun i f => fu f (i * n) 1000000) 1 (n - 1) f
theorem cel_ci {n : Nat} {f : Nat → Int32} {i j : Nat} (hi : i < n) (hj : j < n) : ci n (cel n f) i j = pm (ci n f) i j := by
  have hA : (1000000 : Int32).toInt = AN := by decide
  have h := it_inv (fun i f => fu f (i * n) 1000000) (fun k W => 1 ≤ k ∧ ∀ a c, a < n → c < n → ci n W a c = if c = 0 ∧ a ≠ 0 ∧ a < k then AN else ci n f a c) n (fun k W hk hW => ⟨by omega, fun a c ha hc => by
    have e : fu W (k * n) 1000000 = fu W (k * n + 0) 1000000 := rfl
    rw [e, ci_fu hc (by omega), hA]
    by_cases h : a = k ∧ c = 0
    · have hk1 := hW.1
      rw [if_pos h, if_pos (by omega)]
    · rw [if_neg h, hW.2 a c ha hc]
      by_cases g : c = 0 ∧ a ≠ 0 ∧ a < k
      · rw [if_pos g, if_pos (by omega)]
      · rw [if_neg g, if_neg (by omega)]⟩) (n - 1) 1 f (by omega) ⟨by omega, fun a c _ _ => by rw [if_neg (by omega)]⟩
  have e := h.2 i j hi hj
  show ci n (it (fun i f => fu f (i * n) 1000000) 1 (n - 1) f) i j = _
  rw [e]
  unfold pm
  by_cases g : j = 0 ∧ i ≠ 0
  · rw [if_pos g, if_pos (by omega)]
  · rw [if_neg g, if_neg (by omega)]
theorem crs_ci {n : Nat} (hn4 : 4 ≤ n) {f : Nat → Int32} (hd : ci n f 0 0 = 1) (c : Int32) {i j : Nat} (hi : i < n) (hj : j < n) : ci n (crs n c f) i j = rs (rc c) (ci n f) i j := by
  have hone : (1 : Int32).toInt = 1 := by decide
  have key : ∀ k, 1 ≤ k → k < 4 → ∀ W : Nat → Int32, (∀ a b, a < n → b < n → ci n W a b = if (0 < a ∧ a < k ∧ bt c a) ∨ (0 < b ∧ b < k ∧ bt c b) then rs (rc c) (ci n f) a b else ci n f a b) → ∀ a b, a < n → b < n → ci n (cr2 n c k W) a b = if (0 < a ∧ a < k + 1 ∧ bt c a) ∨ (0 < b ∧ b < k + 1 ∧ bt c b) then rs (rc c) (ci n f) a b else ci n f a b := by
    intro k hk1 hk4 W hW a b ha hb
    unfold cr2
    by_cases hbt : sb c k
    · rw [if_pos hbt]
      have ek : rc c k = 0 := if_pos hbt
      have hh := it_inv (cr1 n c k) (fun d Y => ∀ a b, a < n → b < n → ci n Y a b = if ((0 < a ∧ a < k ∧ bt c a) ∨ (0 < b ∧ b < k ∧ bt c b)) ∨ (a = k ∧ b < d) ∨ (b = k ∧ a < d) then rs (rc c) (ci n f) a b else ci n f a b) n (fun d Y hd2 hY a b ha hb => by
        have v1 : (if sb c d then (1 : Int32) else Y (0 * n + d)).toInt = rs (rc c) (ci n f) k d := by
          unfold rs
          rw [ek]
          by_cases g : sb c d
          · rw [if_pos g, show rc c d = 0 from if_pos g, hd]; exact hone
          · rw [if_neg g, show rc c d = d from if_neg g]
            have := hY 0 d (by omega) hd2
            rw [if_neg (fun t => by
              rcases t with (t | t) | t | t
              · omega
              · exact g ⟨t.1, by omega, t.2.2⟩
              · omega
              · exact g (by rw [t.1]; exact hbt))] at this
            exact this
        have v2 : (if sb c d then (1 : Int32) else (fu Y (k * n + d) (if sb c d then 1 else Y (0 * n + d))) (d * n + 0)).toInt = rs (rc c) (ci n f) d k := by
          unfold rs
          rw [ek]
          by_cases g : sb c d
          · rw [if_pos g, show rc c d = 0 from if_pos g, hd]; exact hone
          · rw [if_neg g, show rc c d = d from if_neg g]
            have hdk : d ≠ k := fun t => g (by rw [t]; exact hbt)
            have e1 := ci_fu (f := Y) (p := k) (q := d) (a := d) (b := 0) (show 0 < n by omega) hd2 (if sb c d then 1 else Y (0 * n + d))
            rw [if_neg (show ¬ (d = k ∧ 0 = d) from fun t => hdk t.1)] at e1
            have := hY d 0 hd2 (by omega)
            rw [if_neg (fun t => by
              rcases t with (t | t) | t | t
              · exact g ⟨t.1, by omega, t.2.2⟩
              · omega
              · exact hdk t.1
              · omega)] at this
            rw [this] at e1
            exact e1
        unfold cr1
        rw [ci_fu hb (by omega)]
        by_cases g1 : a = d ∧ b = k
        · rw [if_pos g1, v2, if_pos (show ((0 < a ∧ a < k ∧ bt c a) ∨ (0 < b ∧ b < k ∧ bt c b)) ∨ (a = k ∧ b < d + 1) ∨ (b = k ∧ a < d + 1) from Or.inr (Or.inr (by omega))), g1.1, g1.2]
        · rw [if_neg g1, ci_fu hb hd2]
          by_cases g2 : a = k ∧ b = d
          · rw [if_pos g2, v1, if_pos (show ((0 < a ∧ a < k ∧ bt c a) ∨ (0 < b ∧ b < k ∧ bt c b)) ∨ (a = k ∧ b < d + 1) ∨ (b = k ∧ a < d + 1) from Or.inr (Or.inl (by omega))), g2.1, g2.2]
          · rw [if_neg g2, hY a b ha hb]
            by_cases g3 : ((0 < a ∧ a < k ∧ bt c a) ∨ (0 < b ∧ b < k ∧ bt c b)) ∨ (a = k ∧ b < d) ∨ (b = k ∧ a < d)
            · rw [if_pos g3, if_pos (g3.elim Or.inl (fun t => Or.inr (by omega)))]
            · rw [if_neg g3, if_neg (fun t => g3 (t.elim Or.inl (fun t => Or.inr (by omega))))]) n 0 W (by omega) (fun a b ha hb => by
        rw [hW a b ha hb]
        by_cases g : (0 < a ∧ a < k ∧ bt c a) ∨ (0 < b ∧ b < k ∧ bt c b)
        · rw [if_pos g, if_pos (Or.inl g)]
        · rw [if_neg g, if_neg (fun t => t.elim g (fun t => by omega))])
      rw [hh a b ha hb]
      by_cases g : (0 < a ∧ a < k + 1 ∧ bt c a) ∨ (0 < b ∧ b < k + 1 ∧ bt c b)
      · rw [if_pos g, if_pos ?_]
        rcases g with g | g
        · by_cases e : a = k
          · exact Or.inr (Or.inl ⟨e, hb⟩)
          · exact Or.inl (Or.inl ⟨g.1, by omega, g.2.2⟩)
        · by_cases e : b = k
          · exact Or.inr (Or.inr ⟨e, ha⟩)
          · exact Or.inl (Or.inr ⟨g.1, by omega, g.2.2⟩)
      · rw [if_neg g, if_neg ?_]
        intro t
        apply g
        rcases t with (t | t) | t | t
        · exact Or.inl ⟨t.1, by omega, t.2.2⟩
        · exact Or.inr ⟨t.1, by omega, t.2.2⟩
        · exact Or.inl (by rw [t.1]; exact ⟨hk1, by omega, hbt.2.2⟩)
        · exact Or.inr (by rw [t.1]; exact ⟨hk1, by omega, hbt.2.2⟩)
    · rw [if_neg hbt, hW a b ha hb]
      have e : ∀ x, (0 < x ∧ x < k ∧ bt c x) ↔ (0 < x ∧ x < k + 1 ∧ bt c x) := fun x => ⟨fun t => ⟨t.1, by omega, t.2.2⟩, fun t => ⟨t.1, by
        by_cases hx : x = k
        · rw [hx] at t; exact absurd ⟨hk1, hk4, t.2.2⟩ hbt
        · omega, t.2.2⟩⟩
      by_cases g : (0 < a ∧ a < k ∧ bt c a) ∨ (0 < b ∧ b < k ∧ bt c b)
      · rw [if_pos g, if_pos (g.elim (fun t => Or.inl ((e a).mp t)) (fun t => Or.inr ((e b).mp t)))]
      · rw [if_neg g, if_neg (fun t => g (t.elim (fun t => Or.inl ((e a).mpr t)) (fun t => Or.inr ((e b).mpr t))))]
  have hh := it_inv (cr2 n c) (fun k W => 1 ≤ k ∧ ∀ a b, a < n → b < n → ci n W a b = if (0 < a ∧ a < k ∧ bt c a) ∨ (0 < b ∧ b < k ∧ bt c b) then rs (rc c) (ci n f) a b else ci n f a b) 4 (fun k W hk hW => ⟨by omega, key k hW.1 hk W hW.2⟩) 3 1 f (by omega) ⟨by omega, fun a b _ _ => by rw [if_neg (by omega)]⟩
  have e := hh.2 i j hi hj
  show ci n (it (cr2 n c) 1 3 f) i j = _
  rw [e]
  by_cases g : (0 < i ∧ i < 4 ∧ bt c i) ∨ (0 < j ∧ j < 4 ∧ bt c j)
  · rw [if_pos g]
  · rw [if_neg g]
    unfold rs
    rw [show rc c i = i from if_neg (fun t => g (Or.inl t)), show rc c j = j from if_neg (fun t => g (Or.inr t))]
def copQ (n : Nat) (o : Op) (q : zQ) : zQ := match o with
  | .inl t => csq n t.1 t.2.1 t.2.2 q
  | .inr (some c) => (crs n c q.1, q.2)
  | .inr none => (cel n q.1, q.2)
def crunQ (n : Nat) : List Op → zQ → zQ
  | [], q => q
  | o :: L, q => crunQ n L (copQ n o q)
theorem crunQ_app (n : Nat) (L K : List Op) : ∀ q, crunQ n (L ++ K) q = crunQ n K (crunQ n L q) := by
  induction L with
  | nil => intro q; rfl
  | cons o L ih => intro q; exact ih (copQ n o q)
theorem crunQ_dead {n : Nat} : ∀ (L : List Op) {q : zQ}, q.2 = 1 → (crunQ n L q).2 = 1 := by
  intro L
  induction L with
  | nil => intro q h; exact h
  | cons o L ih =>
    intro q h
    refine ih (q := copQ n o q) ?_
    rcases o with t | t | c
    · show (csq n t.1 t.2.1 t.2.2 q).2 = 1
      unfold csq
      rw [if_neg (by rw [h]; decide)]
      exact h
    · exact h
    · exact h
theorem copQ_is {n : Nat} (hn4 : 4 ≤ n) (hn : n ≤ 5) {o : Op} (hV : opV o) {q : zQ} (hq : q.2 = 0) {M : iM} (hM : zgd n 100000 M) (h : agr n (ci n q.1) M) : (opM o M = none ∧ (copQ n o q).2 = 1) ∨ ∃ N, opM o M = some N ∧ (copQ n o q).2 = 0 ∧ agr n (ci n (copQ n o q).1) N := by
  have hz := zgd_cg h.symm hM
  have eq : q = (q.1, 0) := by rw [← hq]
  rcases o with t | t | c
  · have hv : t.1 < 4 ∧ t.2.1 < 4 ∧ t.1 ≠ t.2.1 ∧ mk1 100 t.2.2.toInt := hV
    have fw1 : fn 100000 t.2.2.toInt := fn_mono (mk1_fn hv.2.2.2) (by omega)
    have k := csq_is (f := q.1) (w := t.2.2) hn (by omega) (by omega) hz (show t.1 < n by omega) (show t.2.1 < n by omega) fw1
    rw [← eq, h t.2.1 t.1 (by omega) (by omega)] at k
    rcases k with ⟨k1, k2⟩ | ⟨k1, k2, k3⟩
    · left
      exact ⟨by unfold opM; dsimp only; rw [if_pos k1], k2⟩
    · right
      refine ⟨sq M t.1 t.2.1 t.2.2.toInt, by unfold opM; dsimp only; rw [if_neg (by omega)], k2, fun i j hi hj => ?_⟩
      show ci n (csq n t.1 t.2.1 t.2.2 q).1 i j = _
      rw [k3 i j hi hj]
      unfold sq sqT
      rw [h i j hi hj, h i t.1 hi (by omega), h t.2.1 j (by omega) hj]
  · right
    refine ⟨pm M, rfl, hq, fun i j hi hj => ?_⟩
    show ci n (cel n q.1) i j = _
    rw [cel_ci hi hj]
    unfold pm
    rw [h i j hi hj]
  · right
    refine ⟨rs (rc c) M, rfl, hq, fun i j hi hj => ?_⟩
    show ci n (crs n c q.1) i j = _
    rw [crs_ci hn4 (hz.2.1 0 (by omega)) c hi hj]
    exact h _ _ ((rc_ok n c).lt hi) ((rc_ok n c).lt hj)
theorem crunQ_is {n : Nat} (hn4 : 4 ≤ n) (hn : n ≤ 5) : ∀ (L : List Op) {q : zQ} {M : iM}, (∀ o, o ∈ L → opV o) → q.2 = 0 → gRun n L M → agr n (ci n q.1) M → (runM L M = none ∧ (crunQ n L q).2 = 1) ∨ ∃ N, runM L M = some N ∧ (crunQ n L q).2 = 0 ∧ agr n (ci n (crunQ n L q).1) N := by
  intro L
  induction L with
  | nil => intro q M _ hq _ h; exact Or.inr ⟨M, rfl, hq, h⟩
  | cons o L ih =>
    intro q M hV hq hg h
    rcases copQ_is hn4 hn (hV o List.mem_cons_self) hq hg.1 h with ⟨k1, k2⟩ | ⟨N, k1, k2, k3⟩
    · left
      refine ⟨?_, ?_⟩
      · show (match opM o M with | none => none | some N => runM L N) = none
        rw [k1]
      · exact crunQ_dead L k2
    · have e : runM (o :: L) M = runM L N := by
        show (match opM o M with | none => none | some N => runM L N) = runM L N
        rw [k1]
      rw [e]
      exact ih (fun o ho => hV o (List.mem_cons_of_mem _ ho)) k2 (hg.2 N k1) k3
