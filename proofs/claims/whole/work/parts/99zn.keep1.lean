/-! a new thing of any kind on a shelf -/
section KP1
variable {D D' : kD} {κ κ' : kS} {σ : mS} {τ : mL} {z x : Nat}
theorem hold_gen (h : YW D κ σ) (hF : FZ D κ z) (hx : N (κ 9 2 0) = x) (hxs : x < 100000) {zo d c : Nat} (wd : WD D') (dk : Dk D D') (i22 : kI D' 22 x) (i23 : kI D' 23 x) (i24 : κ' 22 x 8 = 1 ∨ κ' 22 x 8 = 2 → kI D' 24 x) (a22 : D'.1 22 x = zo) (ao : ∀ y, y ≠ x → D'.1 22 y = D.1 22 y) (inq : ∀ a q, D'.2.1 a = some q → D.2.1 a = some q ∨ q = (23, x) ∨ q = (22, x) ∨ q = (24, x)) (hc : ∀ a, z + c ≤ a → D'.2.1 a = none) (kn : ∀ a b, ¬ (a = 22 ∧ b = x) → ¬ (a = 23 ∧ b = x) → ¬ (a = 24 ∧ b = x) → κ' a b = κ a b) :
    xup (rn D' κ') (D.1 9 0) (rfA 8 8 (va_up (fun e => if κ 9 0 e = 0 then none else some (D.1 22 (N (κ 9 1 e)))) d (some zo))) = rn D' (k9 κ' (f9p κ d x)) ∧ YW D' (k9 κ' (f9p κ d x)) σ ∧ FZ D' (k9 κ' (f9p κ d x)) (z + c) := by
  have k9i := h.1.2.1 9 (by decide) (by decide) (by decide)
  have a9 := dk.1 9 0 k9i
  have lts : ∀ e, κ 9 0 e ≠ 0 → N (κ 9 1 e) < x := fun e he => by have := hF.2.2 e he; omega
  have a22o : ∀ e, κ 9 0 e ≠ 0 → D'.1 22 (N (κ 9 1 e)) = D.1 22 (N (κ 9 1 e)) := fun e he => ao _ (by have := lts e he; omega)
  have nx : N (J x) = x := J_nat (by omega)
  have nx1 : N (J (x + 1)) = x + 1 := J_nat (by omega)
  have p0 : ∀ e, f9p κ d x 0 e = if e = d then 1 else κ 9 0 e := fun e => rfl
  have p1 : ∀ e, f9p κ d x 1 e = if e = d then J x else κ 9 1 e := fun e => rfl
  have p2 : f9p κ d x 2 0 = J (x + 1) := rfl
  have e3 : k9 κ' (f9p κ d x) 3 0 = κ 3 0 := by rw [k9_n (by decide), kn _ _ (by omega) (by omega) (by omega)]
  have e1' : k9 κ' (f9p κ d x) 1 0 = κ 1 0 := by rw [k9_n (by decide), kn _ _ (by omega) (by omega) (by omega)]
  have e10 : ∀ m, k9 κ' (f9p κ d x) 10 m = κ 10 m := fun m => by rw [k9_n (by decide), kn _ _ (by omega) (by omega) (by omega)]
  have lqR : ∀ {k i : Nat}, lq κ k i → lq (k9 κ' (f9p κ d x)) k i := fun {k i} l => by
    unfold lq at l ⊢
    rw [e3, e1', e10, e10, k9_e, p2, nx1]
    omega
  have lnew : ∀ k, k = 22 ∨ k = 23 ∨ k = 24 → lq (k9 κ' (f9p κ d x)) k x := fun k hk => by
    unfold lq
    rw [k9_e, p2, nx1]
    omega
  have fz : FZ D' (k9 κ' (f9p κ d x)) (z + c) := by
    refine ⟨hc, fun a q hq => ?_, fun e he => ?_⟩
    · rcases inq a q hq with t | t | t | t
      · exact lqR (hF.2.1 a q t)
      · rw [t]; exact lnew 23 (by omega)
      · rw [t]; exact lnew 22 (by omega)
      · rw [t]; exact lnew 24 (by omega)
    · rw [k9_e, p0] at he
      rw [k9_e, k9_e, p1, p2, nx1]
      by_cases hed : e = d
      · rw [if_pos hed, nx]; omega
      · rw [if_neg hed] at he ⊢
        have := lts e he
        omega
  have hp : xup (rn D' κ') (D'.1 9 0) (rfA 8 8 (va_up (fun e => if κ 9 0 e = 0 then none else some (D.1 22 (N (κ 9 1 e)))) d (some zo))) = rn D' (k9 κ' (f9p κ d x)) := by
    refine rn_putX wd a9.2 ?_ (fun a k i ha hn => ?_)
    · have e : (va_up (fun e => if κ 9 0 e = 0 then none else some (D.1 22 (N (κ 9 1 e)))) d (some zo)) = fun e => if k9 κ' (f9p κ d x) 9 0 e = 0 then none else some (D'.1 22 (N (k9 κ' (f9p κ d x) 9 1 e))) := by
        funext e
        rw [k9_e, k9_e, p0, p1]
        unfold va_up
        by_cases hed : e = d
        · rw [if_pos hed, if_pos hed, if_pos hed, if_neg (by decide), nx, a22]
        · rw [if_neg hed, if_neg hed, if_neg hed]
          dsimp only
          by_cases h0 : κ 9 0 e = 0
          · rw [if_pos h0, if_pos h0]
          · rw [if_neg h0, if_neg h0, a22o e h0]
      rw [e]
      rfl
    · by_cases h9 : k = 9
      · rcases inq a _ ha with t | t | t | t
        · exact absurd ⟨h9, (hF.2.1 a _ t).2.2.2.2.2.2 (Or.inr (Or.inr h9))⟩ hn
        · cases t; exact absurd h9 (by decide)
        · cases t; exact absurd h9 (by decide)
        · cases t; exact absurd h9 (by decide)
      · exact kcl_k9 h9
  have lv : LV D' (k9 κ' (f9p κ d x)) := by
    obtain ⟨-, b, c, e, q, r⟩ := h.1
    have up : ∀ {k i : Nat}, kI D k i → kI D' k i := fun i => (dk.1 _ _ i).2
    refine ⟨wd, fun k h1 h2 h3 => up (b k h1 h2 h3), ?_, ?_, ?_, ?_⟩
    · rw [e3]
      exact fun i hi => ⟨up (c i hi).1, up (c i hi).2⟩
    · rw [e1']
      intro m hm
      rw [e10]
      obtain ⟨m1, m2, m3, m4, m5⟩ := e m hm
      exact ⟨up m1, up m2, up m3, fun p hp => ⟨up (m4 p hp).1, up (m4 p hp).2.1, up (m4 p hp).2.2⟩, fun w hw => ⟨up (m5 w hw).1, up (m5 w hw).2.1, up (m5 w hw).2.2⟩⟩
    · rw [e3]
      exact fun k hk => ⟨up (q k hk).1, up (q k hk).2.1, up (q k hk).2.2⟩
    · intro e he hn
      rw [k9_e, p0] at hn
      rw [k9_e, p1]
      by_cases hed : e = d
      · rw [if_pos hed, nx]
        refine ⟨i22, i23, fun t => i24 ?_⟩
        rw [k9_n (by decide)] at t
        exact t
      · rw [if_neg hed] at hn ⊢
        have := lts e hn
        obtain ⟨r1, r2, r3⟩ := r e he hn
        refine ⟨up r1, up r2, fun t => up (r3 ?_)⟩
        rw [k9_n (by decide), kn _ _ (by omega) (by omega) (by omega)] at t
        exact t
  have yw : YW D' (k9 κ' (f9p κ d x)) σ := by
    refine ⟨lv, h.2.1.ky ⟨?_, ?_, ?_, ?_, ?_, ?_, ?_, ?_⟩, h.2.2⟩
    · rw [e1']
    all_goals (funext b; rw [k9_n (by decide), kn _ _ (by omega) (by omega) (by omega)])
  refine ⟨?_, yw, fz⟩
  rw [← a9.1]
  exact hp
/-- the state with a kept way or place -/
def kH (κ : kS) (x : Nat) (g f f2 : Nat → Int32) : kS := kf (kf (kf κ 22 x g) 23 x f) 24 x f2
def eAr (g : Nat → Int32) (f : Nat → Int32) : xE := if g 8 = 1 then inA 3 f else inA 2 f
def eOb (g : Nat → Int32) (z : Nat) : xE := if g 8 = 1 then .inr (7, [.int (g 0), .int (g 1), .int (g 2), .int (g 3), .ref (z + 1), .ref (z + 1 + 1), .int (g 6)]) else .inr (6, [.ref (z + 1), .ref (z + 1 + 1), .int (g 2)])
theorem rfs_24 {κ : kS} {k i ix : Nat} (h : rfs κ k i 24 ix) : k = 22 ∧ i = ix := by
  unfold rfs at h
  split at h <;> simp at h
  exact ⟨rfl, h.symm⟩
theorem kH_n {g f f2 : Nat → Int32} {a b : Nat} (h1 : ¬ (a = 22 ∧ b = x)) (h2 : ¬ (a = 23 ∧ b = x)) (h3 : ¬ (a = 24 ∧ b = x)) : kH κ x g f f2 a b = κ a b := by
  unfold kH
  rw [kf_n h3, kf_n h2, kf_n h1]
theorem hold3 (h : YW D κ σ) (hF : FZ D κ z) (hx : N (κ 9 2 0) = x) (hxs : x < 100000) {d : Nat} {g f f2 : Nat → Int32} (hg : g 8 = 1 ∨ g 8 = 2) :
    ∃ D', xup (xup (xup (xup (rn D κ) (z + 1) (eAr g f)) (z + 1 + 1) (eAr g f2)) z (eOb g z)) (D.1 9 0) (rfA 8 8 (va_up (fun e => if κ 9 0 e = 0 then none else some (D.1 22 (N (κ 9 1 e)))) d (some z))) = rn D' (k9 (kH κ x g f f2) (f9p κ d x)) ∧ YW D' (k9 (kH κ x g f f2) (f9p κ d x)) σ ∧ FZ D' (k9 (kH κ x g f f2) (f9p κ d x)) (z + 3) ∧ Dk D D' ∧ D'.2.2.2 = D.2.2.2 := by
  have d22 := fz_dead hF hx (kd := 22) (by omega)
  have d23 := fz_dead hF hx (kd := 23) (by omega)
  have d24 := fz_dead hF hx (kd := 24) (by omega)
  have e0 : rn D κ = rn D (kf κ 22 x g) := by
    refine (rn_eq (fun a q hq => ?_)).symm
    refine kcl_cg' (kf_n (fun t => d22 a (by rw [hq, ← t.1, ← t.2]))) (fun _ => by rw [kf_k (by decide)]) (fun _ => by funext b; exact kf_k (by decide)) (fun _ => by rw [kf_k (by decide)]) (fun _ => by rw [kf_k (by decide)]) (fun t => kf_n (fun u => ?_))
    rcases t with t | t
    · exact d23 a (by rw [hq, ← t, ← u.2])
    · exact d24 a (by rw [hq, ← t, ← u.2])
  have dt := dT_Dx (D := D) (z := z) (x := x) (kA := 23) (kB := 24) (kC := 22) hF.1 d23 d24 d22 (by decide) (by decide) (by decide)
  obtain ⟨x1, x2, x3, dd1, dd2⟩ := dt
  have w1 : WD (dN D (z + 1) 23 x) := dN_WD h.1.1 d23
  have w2 : WD (dN (dN D (z + 1) 23 x) (z + 1 + 1) 24 x) := dN_WD w1 dd1
  have w3 : WD (dT D z 23 24 22 x) := dN_WD w2 dd2
  have h1 : xup (rn D (kf κ 22 x g)) (z + 1) (eAr g f) = rn (dN D (z + 1) 23 x) (kf (kf κ 22 x g) 23 x f) := by
    refine rn_new d23 ?_ (fun k i hn => kf_n hn) (kxd_kf (by decide) (by decide) (by decide) (fun t => absurd t (by decide))) (fun a q hq hr => ?_)
    · rw [kcl23]
      unfold heB eAr
      rw [kf_k (by decide), kf_e, kf_e]
      rcases hg with e | e
      · rw [if_pos e, if_pos e]
      · have e1 : ¬ (g 8 = 1) := by rw [e]; decide
        rw [if_neg e1, if_pos e, if_neg e1]
    · have := rfs_23 hr
      exact d22 a (by rw [hq, ← this.1, ← this.2])
  have h2 : xup (rn (dN D (z + 1) 23 x) (kf (kf κ 22 x g) 23 x f)) (z + 1 + 1) (eAr g f2) = rn (dN (dN D (z + 1) 23 x) (z + 1 + 1) 24 x) (kH κ x g f f2) := by
    refine rn_new dd1 ?_ (fun k i hn => kf_n hn) (kxd_kf (by decide) (by decide) (by decide) (fun t => absurd t (by decide))) (fun a q hq hr => ?_)
    · unfold eAr kH
      simp only [kcl]
      rw [kf_e, kf_k (by decide), kf_k (by decide), kf_e]
    · have t := rfs_24 hr
      by_cases ha : a = z + 1
      · rw [ha, dN_Ie] at hq
        cases hq
        exact absurd t.1 (by show ¬ (23 = 22); decide)
      · rw [dN_In ha] at hq
        exact d22 a (by rw [hq, ← t.1, ← t.2])
  have g22 : kH κ x g f f2 22 x = g := by
    unfold kH
    rw [kf_k (by decide), kf_k (by decide), kf_e]
  have h3 : xup (rn (dN (dN D (z + 1) 23 x) (z + 1 + 1) 24 x) (kH κ x g f f2)) z (eOb g z) = rn (dT D z 23 24 22 x) (kH κ x g f f2) := by
    refine rn_new dd2 ?_ (fun k i hn => rfl) (kxd.rf _) (fun a q hq hr => ?_)
    · rw [kcl22]
      unfold heA eOb
      rw [g22, dN_n (by omega), dN_n (by omega), dN_e, dN_n (by omega), dN_e]
      rcases hg with e | e
      · rw [if_pos e, if_pos e]
      · have e1 : ¬ (g 8 = 1) := by rw [e]; decide
        rw [if_neg e1, if_pos e, if_neg e1]
    · obtain ⟨-, d', t1, t2⟩ := rfs_22 hr
      rw [kH_n (by omega) (by omega) (by omega)] at t1
      rw [kH_n (by omega) (by omega) (by omega)] at t2
      have := hF.2.2 d' t1
      omega
  have dk : Dk D (dT D z 23 24 22 x) := (x1.dk.tr x2.dk).tr x3.dk
  have zn0 : ∀ a, z ≤ a → D.2.1 a = none := hF.1
  have i23 : kI (dT D z 23 24 22 x) 23 x := (x3.dk.1 23 x (x2.dk.1 23 x (dN_new _ _ _ _)).2).2
  have i24 : kI (dT D z 23 24 22 x) 24 x := (x3.dk.1 24 x (dN_new _ _ _ _)).2
  have inq : ∀ a q, (dT D z 23 24 22 x).2.1 a = some q → D.2.1 a = some q ∨ q = (23, x) ∨ q = (22, x) ∨ q = (24, x) := fun a q hq => by
    unfold dT at hq
    by_cases a1 : a = z
    · rw [a1, dN_Ie] at hq
      cases hq
      exact Or.inr (Or.inr (Or.inl rfl))
    · rw [dN_In a1] at hq
      by_cases a2 : a = z + 1 + 1
      · rw [a2, dN_Ie] at hq
        cases hq
        exact Or.inr (Or.inr (Or.inr rfl))
      · rw [dN_In a2] at hq
        by_cases a3 : a = z + 1
        · rw [a3, dN_Ie] at hq
          cases hq
          exact Or.inr (Or.inl rfl)
        · rw [dN_In a3] at hq
          exact Or.inl hq
  obtain ⟨r1, r2, r3⟩ := hold_gen (D' := dT D z 23 24 22 x) (κ' := kH κ x g f f2) (zo := z) (d := d) (c := 3) h hF hx hxs w3 dk (dN_new _ _ _ _) i23 (fun _ => i24) (dN_e _ _ _ _) (fun y hy => by unfold dT; rw [dN_n (by omega), dN_n (by omega), dN_n (by omega)]) inq (fun a ha => by rw [dT_In (by omega)]; exact hF.1 a (by omega)) (fun a b => kH_n)
  exact ⟨_, by rw [e0, h1, h2, h3]; exact r1, r2, r3, dk, rfl⟩
theorem SH_put3 (S : SH D κ σ τ) (lts : ∀ e, κ 9 0 e ≠ 0 → N (κ 9 1 e) < x) (hxs : x < 100000) {d : Nat} {σ' : mS} {τ' : mL} {g f f2 : Nat → Int32} (hl : D'.2.2.2 = D.2.2.2) (hs : ∀ s e, 46 ≤ s → s ≤ 49 → e ≠ d → σ' s e = σ s e) (ht : ∀ e i, e ≠ d → i < 60 → τ' 50 (60 * e + i) = τ 50 (60 * e + i)) (new : SHd D' (k9 (kH κ x g f f2) (f9p κ d x)) σ' τ' d) : SH D' (k9 (kH κ x g f f2) (f9p κ d x)) σ' τ' := by
  have p0 : ∀ e, k9 (kH κ x g f f2) (f9p κ d x) 9 0 e = if e = d then 1 else κ 9 0 e := fun e => rfl
  have p1 : ∀ e, k9 (kH κ x g f f2) (f9p κ d x) 9 1 e = if e = d then J x else κ 9 1 e := fun e => rfl
  have nx : N (J x) = x := J_nat (by omega)
  have r22 : ∀ y, y ≠ x → k9 (kH κ x g f f2) (f9p κ d x) 22 y = κ 22 y := fun y hy => by rw [k9_n (by decide), kH_n (by omega) (by omega) (by omega)]
  have r23 : ∀ y, y ≠ x → k9 (kH κ x g f f2) (f9p κ d x) 23 y = κ 23 y := fun y hy => by rw [k9_n (by decide), kH_n (by omega) (by omega) (by omega)]
  refine ⟨fun e he => ?_, fun e e' he he' hne h1 h2 => ?_⟩
  · by_cases hed : e = d
    · rw [hed]; exact new
    · have s := S.1 e he
      unfold SHd at s ⊢
      rw [p0, p1, if_neg hed, if_neg hed]
      rcases s with ⟨a, b⟩ | ⟨a, b⟩
      · exact Or.inl ⟨a, by rw [hs 46 e (by omega) (by omega) hed]; exact b⟩
      · have hy := lts e a
        refine Or.inr ⟨a, ?_⟩
        generalize N (κ 9 1 e) = y at b hy
        unfold shW shP shS shL at b ⊢
        rw [hs 46 e (by omega) (by omega) hed, hs 47 e (by omega) (by omega) hed, hs 48 e (by omega) (by omega) hed, hs 49 e (by omega) (by omega) hed, r22 y (by omega), r23 y (by omega), hl]
        rcases b with b | b | ⟨b1, b2, b3, b4, b5⟩ | ⟨b1, b2, b3, b4, b5⟩
        · exact Or.inl b
        · exact Or.inr (Or.inl b)
        · refine Or.inr (Or.inr (Or.inl ⟨b1, b2, b3, b4, fun i hi => ?_⟩))
          have := b4.2
          rw [ht e i hed (by omega)]
          exact b5 i hi
        · refine Or.inr (Or.inr (Or.inr ⟨b1, b2, b3, b4, fun i hi => ?_⟩))
          have := b4.2
          rw [ht e i hed (by omega)]
          exact b5 i hi
  · rw [p0] at h1 h2
    rw [p1, p1]
    by_cases a : e = d
    · have b : ¬ (e' = d) := fun t => hne (a.trans t.symm)
      rw [if_neg b] at h2
      rw [if_pos a, if_neg b, nx]
      have := lts e' h2
      omega
    · rw [if_neg a] at h1
      by_cases b : e' = d
      · rw [if_neg a, if_pos b, nx]
        have := lts e h1
        omega
      · rw [if_neg b] at h2
        rw [if_neg a, if_neg b]
        exact S.2 e e' he he' hne h1 h2
end KP1
