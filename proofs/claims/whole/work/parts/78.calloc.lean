/-! new cells of the class: addresses, what refers to what -/
def rfs (κ : kS) (k i kd ix : Nat) : Prop := match k with
  | 0 => (kd = 1 ∧ ix = 0) ∨ (kd = 6 ∧ ix = 1) ∨ (kd = 8 ∧ ix = 0) ∨ (kd = 9 ∧ ix = 0)
  | 1 => (kd = 2 ∧ ix = 0) ∨ (kd = 3 ∧ ix = 0) ∨ (kd = 4 ∧ ix = 0) ∨ (kd = 5 ∧ ix = 0) ∨ (kd = 6 ∧ ix = 0)
  | 2 => kd = 10 ∧ ix < N (κ 1 0 1)
  | 3 => kd = 19 ∧ ix < N (κ 3 i 0)
  | 6 => kd = 7 ∧ ix = i
  | 9 => kd = 22 ∧ ∃ d, κ 9 0 d ≠ 0 ∧ ix = N (κ 9 1 d)
  | 10 => (kd = 11 ∨ kd = 12) ∧ ix = i
  | 11 => kd = 13 ∧ ∃ p, p < N (κ 10 i 2) ∧ ix = 6 * i + p
  | 12 => kd = 16 ∧ ∃ w, w < N (κ 10 i 3) ∧ ix = 12 * i + w
  | 13 => (kd = 14 ∨ kd = 15) ∧ ix = i
  | 16 => (kd = 17 ∨ kd = 18) ∧ ix = i
  | 19 => ((kd = 20 ∨ kd = 21) ∧ ix = i) ∨ (kd = 6 ∧ (ix = 2 * i + 2 ∨ ix = 2 * i + 3))
  | 22 => (kd = 23 ∨ kd = 24) ∧ ix = i
  | _ => False
theorem if_cg {α : Type} {c : Prop} {d : Decidable c} {a b e : α} (h : c → a = b) : @ite _ c d a e = @ite _ c d b e := by
  by_cases g : c
  · rw [if_pos g, if_pos g, h g]
  · rw [if_neg g, if_neg g]
theorem if_cgn {α : Type} {c : Prop} {d : Decidable c} {a b e : α} (h : ¬ c → a = b) : @ite _ c d e a = @ite _ c d e b := by
  by_cases g : c
  · rw [if_pos g, if_pos g]
  · rw [if_neg g, if_neg g, h g]
theorem kcl_D {D D' : kD} {κ : kS} {k i : Nat} (h : ∀ kd ix, rfs κ k i kd ix → D'.1 kd ix = D.1 kd ix) (hl : D'.2.2.2 = D.2.2.2) (hgg : D'.2.2.1 = D.2.2.1) : kcl D' κ k i = kcl D κ k i := by
  unfold kcl
  split
  · rw [h 1 0 (Or.inl ⟨rfl, rfl⟩), h 6 1 (Or.inr (Or.inl ⟨rfl, rfl⟩)), h 8 0 (Or.inr (Or.inr (Or.inl ⟨rfl, rfl⟩))), h 9 0 (Or.inr (Or.inr (Or.inr ⟨rfl, rfl⟩)))]
  · rw [h 2 0 (Or.inl ⟨rfl, rfl⟩), h 3 0 (Or.inr (Or.inl ⟨rfl, rfl⟩)), h 4 0 (Or.inr (Or.inr (Or.inl ⟨rfl, rfl⟩))), h 5 0 (Or.inr (Or.inr (Or.inr (Or.inl ⟨rfl, rfl⟩)))), h 6 0 (Or.inr (Or.inr (Or.inr (Or.inr ⟨rfl, rfl⟩))))]
  · congr 2
    funext m
    exact if_cg (fun t => by rw [h 10 m ⟨rfl, t⟩])
  · congr 2
    funext m
    exact if_cg (fun t => by rw [h 19 m ⟨rfl, t⟩])
  · rfl
  · rfl
  · rw [h 7 i ⟨rfl, rfl⟩]
  · rfl
  · rfl
  · congr 2
    funext d
    exact if_cgn (fun t => by rw [h 22 _ ⟨rfl, d, t, rfl⟩])
  · rw [h 11 i ⟨Or.inl rfl, rfl⟩, h 12 i ⟨Or.inr rfl, rfl⟩]
  · congr 2
    funext p
    exact if_cg (fun t => by rw [h 13 _ ⟨rfl, p, t, rfl⟩])
  · congr 2
    funext p
    exact if_cg (fun t => by rw [h 16 _ ⟨rfl, p, t, rfl⟩])
  · rw [h 14 i ⟨Or.inl rfl, rfl⟩, h 15 i ⟨Or.inr rfl, rfl⟩]
  · rfl
  · rfl
  · rw [h 17 i ⟨Or.inl rfl, rfl⟩, h 18 i ⟨Or.inr rfl, rfl⟩]
  · rfl
  · rfl
  · rw [h 20 i (Or.inl ⟨Or.inl rfl, rfl⟩), h 21 i (Or.inl ⟨Or.inr rfl, rfl⟩), h 6 (2 * i + 2) (Or.inr ⟨rfl, Or.inl rfl⟩), h 6 (2 * i + 3) (Or.inr ⟨rfl, Or.inr rfl⟩)]
  · rfl
  · rfl
  · unfold heA
    rw [h 23 i ⟨Or.inl rfl, rfl⟩, h 24 i ⟨Or.inr rfl, rfl⟩]
  · rw [hl]
  · rfl
  · rw [hgg]
/-- a new cell at z, of this kind and number -/
def dN (D : kD) (z kd ix : Nat) : kD := (fun k i => if k = kd ∧ i = ix then z else D.1 k i, fun a => if a = z then some (kd, ix) else D.2.1 a, D.2.2.1, D.2.2.2)
theorem dN_e (D : kD) (z kd ix : Nat) : (dN D z kd ix).1 kd ix = z := if_pos ⟨rfl, rfl⟩
theorem dN_n {D : kD} {z kd ix k i : Nat} (h : ¬ (k = kd ∧ i = ix)) : (dN D z kd ix).1 k i = D.1 k i := if_neg h
theorem dN_Ie (D : kD) (z kd ix : Nat) : (dN D z kd ix).2.1 z = some (kd, ix) := if_pos rfl
theorem dN_In {D : kD} {z kd ix a : Nat} (h : a ≠ z) : (dN D z kd ix).2.1 a = D.2.1 a := if_neg h
theorem dN_new (D : kD) (z kd ix : Nat) : kI (dN D z kd ix) kd ix := by
  unfold kI
  rw [dN_e, dN_Ie]
theorem dN_old {D : kD} {z kd ix k i : Nat} (hz : D.2.1 z = none) (h : kI D k i) (hn : ¬ (k = kd ∧ i = ix)) : kI (dN D z kd ix) k i := by
  unfold kI
  rw [dN_n hn, dN_In, h]
  intro e
  unfold kI at h
  rw [e, hz] at h
  cases h
/-- nothing leads to this kind and number -/
def dead (D : kD) (kd ix : Nat) : Prop := ∀ a, D.2.1 a ≠ some (kd, ix)
theorem dN_WD {D : kD} {z kd ix : Nat} (hD : WD D) (hd : dead D kd ix) : WD (dN D z kd ix) := by
  intro a q hq
  by_cases h : a = z
  · rw [h, dN_Ie] at hq
    cases hq
    rw [h]
    exact dN_e D z kd ix
  · rw [dN_In h] at hq
    have hn : ¬ (q.1 = kd ∧ q.2 = ix) := fun t => hd a (by rw [hq, ← t.1, ← t.2])
    rw [dN_n hn]
    exact hD a q hq
theorem dN_dead {D : kD} {z kd ix k i : Nat} (hd : dead D k i) (hn : ¬ (k = kd ∧ i = ix)) : dead (dN D z kd ix) k i := by
  intro a e
  by_cases h : a = z
  · rw [h, dN_Ie] at e
    cases e
    exact hn ⟨rfl, rfl⟩
  · rw [dN_In h] at e
    exact hd a e
theorem rn_new {D : kD} {κ κ' : kS} {z kd ix : Nat} {e : xE} (hd : dead D kd ix) (he : kcl (dN D z kd ix) κ' kd ix = some e) (hk : ∀ k i, ¬ (k = kd ∧ i = ix) → κ' k i = κ k i) (x : kxd κ κ') (hr : ∀ a q, D.2.1 a = some q → ¬ rfs κ q.1 q.2 kd ix) : xup (rn D κ) z e = rn (dN D z kd ix) κ' := by
  funext a
  unfold xup rn
  by_cases ha : a = z
  · rw [if_pos ha, ha, dN_Ie]
    exact he.symm
  · rw [if_neg ha, dN_In ha]
    cases hi : D.2.1 a with
    | none => rfl
    | some q =>
      dsimp only
      have hq : ¬ (q.1 = kd ∧ q.2 = ix) := fun t => hd a (by rw [hi, ← t.1, ← t.2])
      rw [kcl_cg (hk _ _ hq) x]
      refine (kcl_D (fun kd' ix' hh => dN_n (fun t => ?_)) rfl rfl).symm
      rw [t.1, t.2] at hh
      exact hr a q hi hh
/-- all that the map leads to is there -/
def lq (κ : kS) (kd ix : Nat) : Prop := ((kd = 6 ∨ kd = 7) → ix < 2 * N (κ 3 0 0) + 2) ∧ ((kd = 19 ∨ kd = 20 ∨ kd = 21) → ix < N (κ 3 0 0)) ∧ ((kd = 10 ∨ kd = 11 ∨ kd = 12) → ix < N (κ 1 0 1)) ∧ ((kd = 13 ∨ kd = 14 ∨ kd = 15) → ix / 6 < N (κ 1 0 1) ∧ ix % 6 < N (κ 10 (ix / 6) 2)) ∧ ((kd = 16 ∨ kd = 17 ∨ kd = 18) → ix / 12 < N (κ 1 0 1) ∧ ix % 12 < N (κ 10 (ix / 12) 3)) ∧ ((kd = 22 ∨ kd = 23 ∨ kd = 24) → ix < N (κ 9 2 0)) ∧ (kd = 2 ∨ kd = 3 ∨ kd = 9 → ix = 0)
def FZ (D : kD) (κ : kS) (z : Nat) : Prop := (∀ a, z ≤ a → D.2.1 a = none) ∧ (∀ a q, D.2.1 a = some q → lq κ q.1 q.2) ∧ ∀ d, κ 9 0 d ≠ 0 → N (κ 9 1 d) < N (κ 9 2 0)
theorem FZ.cg {D : kD} {κ κ' : kS} {z : Nat} (h : FZ D κ z) (x : kxd κ κ') (h3 : κ' 3 0 0 = κ 3 0 0) : FZ D κ' z := by
  obtain ⟨x1, x9, x10, x22⟩ := x
  unfold FZ lq at h ⊢
  simp only [x1, x9, x10, h3]
  exact h
theorem xup_comm (h : xH) {a b : Nat} (e f : xE) (hab : a ≠ b) : xup (xup h a e) b f = xup (xup h b f) a e := by
  funext q
  unfold xup
  by_cases h1 : q = b
  · rw [if_pos h1, if_neg (by rw [h1]; exact Ne.symm hab), if_pos h1]
  · rw [if_neg h1]
    by_cases h2 : q = a
    · rw [if_pos h2, if_pos h2]
    · rw [if_neg h2, if_neg h2, if_neg h1]
theorem pf_x {h : xH} {a ci k : Nat} {v : Value} {fs : List Value} (hl : k < fs.length) : pf (xup h a (.inr (ci, fs))) a ci k v = some (xup h a (.inr (ci, fs.set k v))) := by
  unfold pf
  rw [xup_eq]
  dsimp only
  rw [if_pos rfl, if_pos hl, xup_xup]
theorem gq_x {h : xH} {a ci k y : Nat} {fs : List Value} (hk : fs[k]? = some (.ref y)) : gq (xup h a (.inr (ci, fs))) a ci k = some (some y) := by
  unfold gq
  rw [xup_eq]
  dsimp only
  rw [if_pos rfl, hk]
  rfl
theorem Ev.oad {α : Type} {f : Nat → Option (α × xH × Nat × Nat)} {r : α} {h : xH} {c s a b : Nat} (e : Ev f (r, h, c, s)) : Ev (fun n => oadd a b (f n)) (r, h, c + a, s + b) := by
  obtain ⟨M, hM⟩ := e
  refine ⟨M, fun n hn => ?_⟩
  show oadd a b (f n) = _
  rw [hM n hn]
  rfl
def ones (m : Nat) : Nat → Int32 := fun i => if i < m then 1 else 0
theorem zinit_4 {h : xH} {o z : Nat} (hz : o ≠ z) : Ev (fun n => Zo_init_f n o 0 (xup h o (.inr (1, [.int 0, .null, .int 0]))) z) (0, xup (xup h o (.inr (1, [.int 4, .ref z, .int 0]))) z (inA 16 (ones 16)), 1, 16) := by
  unfold Zo_init_f
  refine Ev.pos rfl ?_
  rw [pf_x (by show 0 < 3; decide)]
  simp only [obd]
  refine Ev.pos trivial ?_
  refine Ev.oad (a := 1) (b := 16) (c := 0) (s := 0) ?_
  simp only [bnd]
  rw [xup_comm _ _ _ hz, pf_x (by show 1 < 3; decide)]
  simp only []
  rw [gq_x (y := z) (by rfl)]
  simp only []
  rw [xup_comm _ _ _ (Ne.symm hz)]
  have f0 := fill_x (h := xup h o (.inr (1, [.int 4, .ref z, .int 0]))) (b := z) (n := 16) (f := fun _ => 0) (by decide) (x := 1) (x2 := 0) (x3 := 0)
  exact Ev.ob f0 Ev.ret
theorem zinit_5 {h : xH} {o z : Nat} (hz : o ≠ z) : Ev (fun n => Zo_init_f n o 1 (xup h o (.inr (1, [.int 0, .null, .int 0]))) z) (0, xup (xup h o (.inr (1, [.int 5, .ref z, .int 0]))) z (inA 25 (ones 25)), 1, 25) := by
  unfold Zo_init_f
  refine Ev.neg (by decide) ?_
  rw [pf_x (by show 0 < 3; decide)]
  simp only [obd]
  refine Ev.neg (by decide) ?_
  refine Ev.oad (a := 1) (b := 25) (c := 0) (s := 0) ?_
  simp only [bnd]
  rw [xup_comm _ _ _ hz, pf_x (by show 1 < 3; decide)]
  simp only []
  rw [gq_x (y := z) (by rfl)]
  simp only []
  rw [xup_comm _ _ _ (Ne.symm hz)]
  have f0 := fill_x (h := xup h o (.inr (1, [.int 5, .ref z, .int 0]))) (b := z) (n := 25) (f := fun _ => 0) (by decide) (x := 1) (x2 := 0) (x3 := 0)
  exact Ev.ob f0 Ev.ret
