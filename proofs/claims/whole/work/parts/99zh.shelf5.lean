/-! a new row on a shelf -/
def dL (D : kD) (x : Nat) (l : Nat → Int64) : kD := (D.1, D.2.1, D.2.2.1, fun y => if y = x then l else D.2.2.2 y)
theorem kcl_L {D : kD} {κ : kS} {x : Nat} {l : Nat → Int64} {k i : Nat} (h : ¬ (k = 23 ∧ i = x)) : kcl (dL D x l) κ k i = kcl D κ k i := by
  by_cases hk : k = 23
  · subst hk
    have e : (dL D x l).2.2.2 i = D.2.2.2 i := if_neg (fun t => h ⟨rfl, t⟩)
    rw [kcl23, kcl23]
    unfold heB
    rw [e]
  · unfold kcl
    split
    all_goals first
      | rfl
      | exact absurd rfl hk
theorem rn_dL {D : kD} {κ : kS} {x : Nat} {l : Nat → Int64} (hd : dead D 23 x) : rn (dL D x l) κ = rn D κ := by
  funext a
  unfold rn
  show (match D.2.1 a with | some i => kcl (dL D x l) κ i.1 i.2 | none => D.2.2.1 a) = _
  cases hi : D.2.1 a with
  | none => rfl
  | some q => exact kcl_L (fun t => hd a (by rw [hi, ← t.1, ← t.2]))
theorem rfs_23 {κ : kS} {k i ix : Nat} (h : rfs κ k i 23 ix) : k = 22 ∧ i = ix := by
  unfold rfs at h
  split at h <;> simp at h
  exact ⟨rfl, h.symm⟩
theorem rfs_22 {κ : kS} {k i ix : Nat} (h : rfs κ k i 22 ix) : k = 9 ∧ ∃ d, κ 9 0 d ≠ 0 ∧ ix = N (κ 9 1 d) := by
  unfold rfs at h
  split at h <;> simp at h
  exact ⟨rfl, h⟩
/-- D' holds all that D holds -/
def Dk (D D' : kD) : Prop := (∀ kd ix, kI D kd ix → D'.1 kd ix = D.1 kd ix ∧ kI D' kd ix) ∧ D'.2.2.1 = D.2.2.1
theorem Dk.tr {D D' D'' : kD} (h : Dk D D') (g : Dk D' D'') : Dk D D'' := ⟨fun kd ix i => ⟨((g.1 kd ix (h.1 kd ix i).2).1).trans (h.1 kd ix i).1, (g.1 kd ix (h.1 kd ix i).2).2⟩, g.2.trans h.2⟩
theorem Dx.dk {D D' : kD} (h : Dx D D') : Dk D D' := ⟨h.1, h.2.1⟩
/-- the shelves' numbers, with x on shelf d -/
def f9p (κ : kS) (d x : Nat) : Nat → Nat → Int32 := fun b => if b = 0 then fu (κ 9 0) d 1 else if b = 1 then fu (κ 9 1) d (J x) else if b = 2 then fun _ => J (x + 1) else κ 9 b
def kR (κ : kS) (x : Nat) (g f : Nat → Int32) : kS := kf (kf κ 22 x g) 23 x f
section SH5
variable {D : kD} {κ : kS} {σ : mS} {z x : Nat}
theorem fz_dead (hF : FZ D κ z) (hx : N (κ 9 2 0) = x) {kd : Nat} (hk : kd = 22 ∨ kd = 23 ∨ kd = 24) : dead D kd x := fun a e => by
  have l := (hF.2.1 a _ e).2.2.2.2.2.1 hk
  dsimp only at l
  omega
theorem kR_n {g f : Nat → Int32} {a b : Nat} (h1 : ¬ (a = 22 ∧ b = x)) (h2 : ¬ (a = 23 ∧ b = x)) : kR κ x g f a b = κ a b := by
  unfold kR
  rw [kf_n h2, kf_n h1]
theorem hold_row (h : YW D κ σ) (hF : FZ D κ z) (hx : N (κ 9 2 0) = x) (hxs : x < 100000) {za zo d : Nat} (hz : (za = z ∧ zo = z + 1) ∨ (za = z + 1 ∧ zo = z)) (hd : d < 8) {g f : Nat → Int32} {l : Nat → Int64} (hg : ¬ (g 8 = 1) ∧ ¬ (g 8 = 2)) {eA eO : xE} (hA : heB (kR κ x g f) (dL D x l).2.2.2 x = eA) (hO : (if g 8 = 3 then (.inr (8, [.ref za]) : xE) else .inr (9, [.ref za])) = eO) :
    ∃ D', xup (xup (xup (rn D κ) za eA) zo eO) (D.1 9 0) (rfA 8 8 (va_up (fun e => if κ 9 0 e = 0 then none else some (D.1 22 (N (κ 9 1 e)))) d (some zo))) = rn D' (k9 (kR κ x g f) (f9p κ d x)) ∧ YW D' (k9 (kR κ x g f) (f9p κ d x)) σ ∧ FZ D' (k9 (kR κ x g f) (f9p κ d x)) (z + 2) ∧ Dk D D' ∧ (∀ y, D'.2.2.2 y = if y = x then l else D.2.2.2 y) := by
  have k9i := h.1.2.1 9 (by decide) (by decide) (by decide)
  have d22 := fz_dead hF hx (kd := 22) (by omega)
  have d23 := fz_dead hF hx (kd := 23) (by omega)
  have d24 := fz_dead hF hx (kd := 24) (by omega)
  have e0 : rn D κ = rn (dL D x l) (kf κ 22 x g) := by
    rw [← rn_dL (l := l) d23]
    refine (rn_eq (fun a q hq => ?_)).symm
    have hq' : D.2.1 a = some q := hq
    refine kcl_cg' (kf_n (fun t => d22 a (by rw [hq', ← t.1, ← t.2]))) (fun _ => by rw [kf_k (by decide)]) (fun _ => by funext b; exact kf_k (by decide)) (fun _ => by rw [kf_k (by decide)]) (fun _ => by rw [kf_k (by decide)]) (fun t => kf_n (fun u => ?_))
    rcases t with t | t
    · exact d23 a (by rw [hq', ← t, ← u.2])
    · exact d24 a (by rw [hq', ← t, ← u.2])
  have d23' : dead (dL D x l) 23 x := d23
  have d22' : dead (dN (dL D x l) za 23 x) 22 x := dN_dead (show dead (dL D x l) 22 x from d22) (by omega)
  have za0 : (dL D x l).2.1 za = none := hF.1 za (by omega)
  have zo0 : (dN (dL D x l) za 23 x).2.1 zo = none := by
    rw [dN_In (by omega)]
    exact hF.1 zo (by omega)
  have e1 : xup (rn (dL D x l) (kf κ 22 x g)) za eA = rn (dN (dL D x l) za 23 x) (kR κ x g f) := by
    refine rn_new d23' ?_ (fun k i hn => kf_n hn) (kxd_kf (by decide) (by decide) (by decide) (fun t => absurd t (by decide))) (fun a q hq hr => ?_)
    · rw [kcl23, ← hA]
      rfl
    · have := rfs_23 hr
      exact d22 a (by have hq' : D.2.1 a = some q := hq; rw [hq', ← this.1, ← this.2])
  have g22 : kR κ x g f 22 x = g := by
    unfold kR
    rw [kf_k (by decide), kf_e]
  have e2 : xup (rn (dN (dL D x l) za 23 x) (kR κ x g f)) zo eO = rn (dN (dN (dL D x l) za 23 x) zo 22 x) (kR κ x g f) := by
    refine rn_new d22' ?_ (fun k i hn => rfl) (kxd.rf _) (fun a q hq hr => ?_)
    · rw [kcl22, ← hO]
      unfold heA
      rw [g22, if_neg hg.1, if_neg hg.2, dN_n (by omega), dN_e]
    · obtain ⟨-, d', t1, t2⟩ := rfs_22 hr
      rw [kR_n (by omega) (by omega)] at t1
      rw [kR_n (by omega) (by omega)] at t2
      have := hF.2.2 d' t1
      omega
  obtain ⟨D', hD'⟩ : ∃ D', D' = dN (dN (dL D x l) za 23 x) zo 22 x := ⟨_, rfl⟩
  have dk : Dk D D' := by
    rw [hD']
    have a1 : Dk D (dL D x l) := ⟨fun kd ix i => ⟨rfl, i⟩, rfl⟩
    exact (a1.tr (Dx_dN za0 d23').dk).tr (Dx_dN zo0 d22').dk
  have wd : WD D' := by
    rw [hD']
    have w0 : WD (dL D x l) := h.1.1
    exact dN_WD (dN_WD w0 d23') d22'
  have i22 : kI D' 22 x := by rw [hD']; exact dN_new _ _ _ _
  have i23 : kI D' 23 x := by rw [hD']; exact dN_old zo0 (dN_new _ _ _ _) (by omega)
  have a22 : D'.1 22 x = zo := by rw [hD']; exact dN_e _ _ _ _
  have a9 := dk.1 9 0 k9i
  have lts : ∀ e, κ 9 0 e ≠ 0 → N (κ 9 1 e) < x := fun e he => by have := hF.2.2 e he; omega
  have a22o : ∀ e, κ 9 0 e ≠ 0 → D'.1 22 (N (κ 9 1 e)) = D.1 22 (N (κ 9 1 e)) := fun e he => by
    have := lts e he
    rw [hD', dN_n (by omega), dN_n (by omega)]
    rfl
  have nx : N (J x) = x := J_nat (by omega)
  have nx1 : N (J (x + 1)) = x + 1 := J_nat (by omega)
  have p0 : ∀ e, f9p κ d x 0 e = if e = d then 1 else κ 9 0 e := fun e => rfl
  have p1 : ∀ e, f9p κ d x 1 e = if e = d then J x else κ 9 1 e := fun e => rfl
  have p2 : f9p κ d x 2 0 = J (x + 1) := rfl
  -- what the map leads to
  have inq : ∀ a q, D'.2.1 a = some q → D.2.1 a = some q ∨ (q = (23, x)) ∨ q = (22, x) := fun a q hq => by
    rw [hD'] at hq
    by_cases h1 : a = zo
    · rw [h1, dN_Ie] at hq
      cases hq
      exact Or.inr (Or.inr rfl)
    · rw [dN_In h1] at hq
      by_cases h2 : a = za
      · rw [h2, dN_Ie] at hq
        cases hq
        exact Or.inr (Or.inl rfl)
      · rw [dN_In h2] at hq
        exact Or.inl hq
  have lqR : ∀ {k i : Nat}, lq κ k i → lq (k9 (kR κ x g f) (f9p κ d x)) k i := fun {k i} l => by
    have e3 : k9 (kR κ x g f) (f9p κ d x) 3 0 = κ 3 0 := by rw [k9_n (by decide), kR_n (by omega) (by omega)]
    have e1' : k9 (kR κ x g f) (f9p κ d x) 1 0 = κ 1 0 := by rw [k9_n (by decide), kR_n (by omega) (by omega)]
    have e10 : ∀ m, k9 (kR κ x g f) (f9p κ d x) 10 m = κ 10 m := fun m => by rw [k9_n (by decide), kR_n (by omega) (by omega)]
    unfold lq at l ⊢
    rw [e3, e1', e10, e10, k9_e, p2, nx1]
    omega
  have lnew : ∀ k, k = 22 ∨ k = 23 → lq (k9 (kR κ x g f) (f9p κ d x)) k x := fun k hk => by
    unfold lq
    rw [k9_e, p2, nx1]
    omega
  have fz : FZ D' (k9 (kR κ x g f) (f9p κ d x)) (z + 2) := by
    refine ⟨fun a ha => ?_, fun a q hq => ?_, fun e he => ?_⟩
    · rw [hD', dN_In (by omega), dN_In (by omega)]
      exact hF.1 a (by omega)
    · rcases inq a q hq with t | t | t
      · exact lqR (hF.2.1 a q t)
      · rw [t]; exact lnew 23 (by omega)
      · rw [t]; exact lnew 22 (by omega)
    · rw [k9_e, p0] at he
      rw [k9_e, k9_e, p1, p2, nx1]
      by_cases hed : e = d
      · rw [if_pos hed, nx]; omega
      · rw [if_neg hed] at he ⊢
        have := lts e he
        omega
  -- the heap
  have hp : xup (rn D' (kR κ x g f)) (D'.1 9 0) (rfA 8 8 (va_up (fun e => if κ 9 0 e = 0 then none else some (D.1 22 (N (κ 9 1 e)))) d (some zo))) = rn D' (k9 (kR κ x g f) (f9p κ d x)) := by
    refine rn_putX wd a9.2 ?_ (fun a k i ha hn => ?_)
    · have e : (va_up (fun e => if κ 9 0 e = 0 then none else some (D.1 22 (N (κ 9 1 e)))) d (some zo)) = fun e => if k9 (kR κ x g f) (f9p κ d x) 9 0 e = 0 then none else some (D'.1 22 (N (k9 (kR κ x g f) (f9p κ d x) 9 1 e))) := by
        funext e
        rw [k9_e, k9_e, p0, p1]
        unfold va_up
        by_cases hed : e = d
        · rw [if_pos hed, if_pos hed, if_pos hed, if_neg (by decide), nx, a22]
        · rw [if_neg hed, if_neg hed, if_neg hed]
          dsimp only
          by_cases h0 : κ 9 0 e = 0
          · rw [if_pos h0, if_pos h0]
          · rw [if_neg h0, if_neg h0, a22o e h0]
      rw [e]
      rfl
    · by_cases h9 : k = 9
      · rcases inq a _ ha with t | t | t
        · exact absurd ⟨h9, (hF.2.1 a _ t).2.2.2.2.2.2 (Or.inr (Or.inr h9))⟩ hn
        · cases t; exact absurd h9 (by decide)
        · cases t; exact absurd h9 (by decide)
      · exact kcl_k9 h9
  have lv : LV D' (k9 (kR κ x g f) (f9p κ d x)) := by
    obtain ⟨-, b, c, e, q, r⟩ := h.1
    have e3 : k9 (kR κ x g f) (f9p κ d x) 3 0 = κ 3 0 := by rw [k9_n (by decide), kR_n (by omega) (by omega)]
    have e1' : k9 (kR κ x g f) (f9p κ d x) 1 0 = κ 1 0 := by rw [k9_n (by decide), kR_n (by omega) (by omega)]
    have e10 : ∀ m, k9 (kR κ x g f) (f9p κ d x) 10 m = κ 10 m := fun m => by rw [k9_n (by decide), kR_n (by omega) (by omega)]
    have up : ∀ {k i : Nat}, kI D k i → kI D' k i := fun i => (dk.1 _ _ i).2
    refine ⟨wd, fun k h1 h2 h3 => up (b k h1 h2 h3), ?_, ?_, ?_, ?_⟩
    · rw [e3]
      exact fun i hi => ⟨up (c i hi).1, up (c i hi).2⟩
    · rw [e1']
      intro m hm
      rw [e10]
      obtain ⟨m1, m2, m3, m4, m5⟩ := e m hm
      exact ⟨up m1, up m2, up m3, fun p hp => ⟨up (m4 p hp).1, up (m4 p hp).2.1, up (m4 p hp).2.2⟩, fun w hw => ⟨up (m5 w hw).1, up (m5 w hw).2.1, up (m5 w hw).2.2⟩⟩
    · rw [e3]
      exact fun k hk => ⟨up (q k hk).1, up (q k hk).2.1, up (q k hk).2.2⟩
    · intro e he hn
      rw [k9_e, p0] at hn
      rw [k9_e, p1]
      by_cases hed : e = d
      · rw [if_pos hed, nx]
        refine ⟨i22, i23, fun t => ?_⟩
        rw [k9_n (by decide), g22] at t
        exact absurd t (fun u => u.elim hg.1 hg.2)
      · rw [if_neg hed] at hn ⊢
        have := lts e hn
        obtain ⟨r1, r2, r3⟩ := r e he hn
        refine ⟨up r1, up r2, fun t => up (r3 ?_)⟩
        rw [k9_n (by decide), kR_n (by omega) (by omega)] at t
        exact t
  have yw : YW D' (k9 (kR κ x g f) (f9p κ d x)) σ := by
    refine ⟨lv, h.2.1.ky ⟨?_, ?_, ?_, ?_, ?_, ?_, ?_, ?_⟩, h.2.2⟩
    · rw [k9_n (by decide), kR_n (by omega) (by omega)]
    all_goals (funext b; rw [k9_n (by decide), kR_n (by omega) (by omega)])
  refine ⟨D', ?_, yw, fz, dk, fun y => by rw [hD']; rfl⟩
  rw [e0, e1, e2, ← hD', ← a9.1]
  exact hp
end SH5
