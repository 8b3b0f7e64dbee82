/-! THE LAW: the heap between calls; rows of its body -/
/-- the same places, the rest of the heap as it is now -/
def nm (D : kD) (h : xH) : kD := (fun k i => if k = 25 then i else D.1 k i, fun a => match D.2.1 a with
  | some q => if q.1 < 25 then some q else if q = (25, a) then some (25, a) else none
  | none => none, h, D.2.2.2)
section NM
variable {D : kD} {κ : kS} {σ : mS} {τ : mL} {z n : Nat} {h : xH}
theorem nm_A {k i : Nat} (hk : k < 25) : (nm D h).1 k i = D.1 k i := if_neg (by omega)
theorem nm_A25 {a : Nat} : (nm D h).1 25 a = a := by
  show (if 25 = 25 then a else D.1 25 a) = a
  rw [if_pos rfl]
theorem nm_I {a : Nat} {q : Nat × Nat} (hq : D.2.1 a = some q) (hk : q.1 < 25) : (nm D h).2.1 a = some q := by
  unfold nm
  dsimp only
  rw [hq]
  exact if_pos hk
theorem nm_I25 {a : Nat} (hq : D.2.1 a = some (25, a)) : (nm D h).2.1 a = some (25, a) := by
  unfold nm
  dsimp only
  rw [hq]
  dsimp only
  rw [if_neg (by decide), if_pos rfl]
theorem nm_In {a : Nat} (hq : D.2.1 a = none) : (nm D h).2.1 a = none := by
  unfold nm
  dsimp only
  rw [hq]
theorem nm_Ix {a : Nat} {q : Nat × Nat} (hq : D.2.1 a = some q) (hk : ¬ (q.1 < 25)) (h5 : ¬ (q = (25, a))) : (nm D h).2.1 a = none := by
  unfold nm
  dsimp only
  rw [hq]
  dsimp only
  rw [if_neg hk, if_neg h5]
theorem nm_inv {a : Nat} {q : Nat × Nat} (hq : (nm D h).2.1 a = some q) : (D.2.1 a = some q ∧ q.1 < 25) ∨ q = (25, a) := by
  cases hd : D.2.1 a with
  | none => rw [nm_In hd] at hq; cases hq
  | some p =>
    by_cases hk : p.1 < 25
    · rw [nm_I hd hk] at hq
      cases hq
      exact Or.inl ⟨rfl, hk⟩
    · by_cases h5 : p = (25, a)
      · rw [nm_I25 (by rw [hd, h5])] at hq
        cases hq
        exact Or.inr rfl
      · rw [nm_Ix hd hk h5] at hq
        cases hq
theorem nm_kI {k i : Nat} (hk : k < 25) (hi : kI D k i) : kI (nm D h) k i := by
  unfold kI at hi ⊢
  rw [nm_A hk]
  exact nm_I hi hk
theorem nm_kcl {k i : Nat} (hk : k < 25) : kcl (nm D h) κ k i = kcl D κ k i := by
  have c : k = 0 ∨ k = 1 ∨ k = 2 ∨ k = 3 ∨ k = 4 ∨ k = 5 ∨ k = 6 ∨ k = 7 ∨ k = 8 ∨ k = 9 ∨ k = 10 ∨ k = 11 ∨ k = 12 ∨ k = 13 ∨ k = 14 ∨ k = 15 ∨ k = 16 ∨ k = 17 ∨ k = 18 ∨ k = 19 ∨ k = 20 ∨ k = 21 ∨ k = 22 ∨ k = 23 ∨ k = 24 := by omega
  rcases c with rfl | rfl | rfl | rfl | rfl | rfl | rfl | rfl | rfl | rfl | rfl | rfl | rfl | rfl | rfl | rfl | rfl | rfl | rfl | rfl | rfl | rfl | rfl | rfl | rfl <;> rfl
theorem nm_rn (hh : ∀ a q, D.2.1 a = some q → q.1 < 25 → h a = rn D κ a) : rn (nm D h) κ = h := by
  funext a
  cases hq : D.2.1 a with
  | none =>
    unfold rn
    rw [nm_In hq]
    rfl
  | some q =>
    by_cases hk : q.1 < 25
    · have e := hh a q hq hk
      unfold rn at e ⊢
      rw [hq] at e
      rw [nm_I hq hk, e]
      exact nm_kcl hk
    · by_cases h5 : q = (25, a)
      · unfold rn
        rw [nm_I25 (by rw [hq, h5])]
        rfl
      · unfold rn
        rw [nm_Ix hq hk h5]
        rfl
theorem nm_WD (w : WD D) : WD (nm D h) := by
  intro a q hq
  rcases nm_inv hq with ⟨t, hk⟩ | t
  · rw [nm_A hk]
    exact w a q t
  · rw [t]
    exact nm_A25
theorem nm_FZ (f : FZ D κ z) : FZ (nm D h) κ z := by
  refine ⟨fun a ha => nm_In (f.1 a ha), fun a q hq => ?_, f.2.2⟩
  rcases nm_inv hq with ⟨t, hk⟩ | t
  · exact f.2.1 a q t
  · rw [t]
    unfold lq
    dsimp only
    omega
theorem nm_LV (l : LV D κ) : LV (nm D h) κ := by
  obtain ⟨a, b, c, d, e, g⟩ := l
  refine ⟨nm_WD a, fun k h1 h2 h3 => nm_kI (by omega) (b k h1 h2 h3), fun i hi => ⟨nm_kI (by decide) (c i hi).1, nm_kI (by decide) (c i hi).2⟩, fun m hm => ?_, fun k hk => ⟨nm_kI (by decide) (e k hk).1, nm_kI (by decide) (e k hk).2.1, nm_kI (by decide) (e k hk).2.2⟩, fun x hx h0 => ⟨nm_kI (by decide) (g x hx h0).1, nm_kI (by decide) (g x hx h0).2.1, fun t => nm_kI (by decide) ((g x hx h0).2.2 t)⟩⟩
  obtain ⟨m1, m2, m3, m4, m5⟩ := d m hm
  exact ⟨nm_kI (by decide) m1, nm_kI (by decide) m2, nm_kI (by decide) m3, fun p hp => ⟨nm_kI (by decide) (m4 p hp).1, nm_kI (by decide) (m4 p hp).2.1, nm_kI (by decide) (m4 p hp).2.2⟩, fun w hw => ⟨nm_kI (by decide) (m5 w hw).1, nm_kI (by decide) (m5 w hw).2.1, nm_kI (by decide) (m5 w hw).2.2⟩⟩
theorem nm_PR (P : PR n D κ σ τ z) : PR n (nm D h) κ σ τ z := by
  obtain ⟨yw, fz, w, pw, hr, zs, sh, nn⟩ := P
  exact ⟨⟨nm_LV yw.1, yw.2⟩, nm_FZ fz, w, pw, hr, zs, SH_cg sh rfl rfl rfl rfl (fun _ _ _ => rfl), nn⟩
theorem PR_z (P : PR n D κ σ τ z) {z' : Nat} (hz : z ≤ z') : PR n D κ σ τ z' := by
  obtain ⟨yw, fz, w⟩ := P
  exact ⟨yw, ⟨fun a ha => fz.1 a (by omega), fz.2⟩, w⟩
end NM
/-- the reference's cells (object r, rows ad) and the law's own row w -/
def rfc (r : Nat) (ad : Nat → Nat) (w a : Nat) : Prop := a = r ∨ (∃ k p, mk k = some p ∧ a = ad k) ∨ a = w
/-- between calls; o: the object of the class -/
def LI (n o r : Nat) (ad : Nat → Nat) (w : Nat) (D : kD) (κ : kS) (σ : mS) (τ : mL) (h : xH) (z : Nat) : Prop := PR n D κ σ τ z ∧ rn D κ = h ∧ D.1 0 0 = o ∧ Mo (r, ad, h, z) σ τ h ∧ (∃ f, h w = some (.inl (1, 1, .inr (.inl f)))) ∧ (∀ a, rfc r ad w a → D.1 25 a = a ∧ kI D 25 a) ∧ (w ≠ r ∧ ∀ k p, mk k = some p → w ≠ ad k)
section LI1
variable {n o r w z : Nat} {ad : Nat → Nat} {D D' : kD} {κ κ' : kS} {σ : mS} {τ : mL} {h : xH}
theorem LI_cl (I : LI n o r ad w D κ σ τ h z) (dk : Dk D D') (κ' : kS) (z' : Nat) : Mo (r, ad, rn D' κ', z') σ τ (rn D' κ') ∧ (∀ a, rfc r ad w a → rn D' κ' a = h a) ∧ ∀ a, rfc r ad w a → D'.1 25 a = a ∧ kI D' 25 a := by
  obtain ⟨P, rfl, ho, hM, hw, hk, hne⟩ := I
  have e : ∀ a, rfc r ad w a → (D'.1 25 a = a ∧ kI D' 25 a) := fun a ha => by
    obtain ⟨t1, t2⟩ := hk a ha
    obtain ⟨u1, u2⟩ := dk.1 25 a t2
    exact ⟨u1.trans t1, u2⟩
  have e2 : ∀ a, rfc r ad w a → rn D' κ' a = rn D κ a := fun a ha => by
    obtain ⟨t1, t2⟩ := hk a ha
    obtain ⟨u1, u2⟩ := e a ha
    have q1 : rn D' κ' (D'.1 25 a) = kcl D' κ' 25 a := rn_at u2
    have q2 : rn D κ (D.1 25 a) = kcl D κ 25 a := rn_at t2
    rw [u1] at q1
    rw [t1] at q2
    rw [q1, q2]
    show D'.2.2.1 a = D.2.2.1 a
    rw [dk.2]
  refine ⟨⟨?_, fun k kd m hk' => ?_, hM.2.2.1, fun q _ _ => rfl⟩, e2, e⟩
  · show rn D' κ' r = _
    rw [e2 r (Or.inl rfl)]
    exact hM.1
  · show rn D' κ' (ad k) = _
    rw [e2 (ad k) (Or.inr (Or.inl ⟨k, _, hk', rfl⟩))]
    exact hM.2.1 k kd m hk'
theorem LI_ne (hk : ∀ a, rfc r ad w a → D.1 25 a = a ∧ kI D 25 a) {a : Nat} {q : Nat × Nat} (hq : D.2.1 a = some q) (h25 : q.1 < 25) : ¬ rfc r ad w a := fun t => by
  obtain ⟨t1, t2⟩ := hk a t
  unfold kI at t2
  rw [t1, hq] at t2
  cases t2
  exact absurd h25 (Nat.lt_irrefl 25)
/-- behind both calls -/
theorem LI_fin {hX : xH} (P : PR n D κ σ τ z) (ho : D.1 0 0 = o) (hM : Mo (r, ad, hX, z) σ τ h) (hw : ∃ f, h w = some (.inl (1, 1, .inr (.inl f)))) (hk : ∀ a, rfc r ad w a → D.1 25 a = a ∧ kI D 25 a) (hne : w ≠ r ∧ ∀ k p, mk k = some p → w ≠ ad k) (hX' : ∀ a, ¬ rfc r ad w a → hX a = rn D κ a) : LI n o r ad w (nm D h) κ σ τ h z := by
  refine ⟨nm_PR P, nm_rn (fun a q hq h25 => ?_), (nm_A (by decide)).trans ho, ⟨hM.1, hM.2.1, hM.2.2.1, fun _ _ _ => rfl⟩, hw, fun a ha => ⟨nm_A25, ?_⟩, hne⟩
  · have nr := LI_ne hk hq h25
    rw [← hX' a nr]
    exact hM.2.2.2 a (fun t => nr (Or.inl t)) (fun k p hp t => nr (Or.inr (Or.inl ⟨k, p, hp, t⟩)))
  · obtain ⟨t1, t2⟩ := hk a ha
    unfold kI at t2 ⊢
    rw [t1] at t2
    rw [nm_A25]
    exact nm_I25 t2
/-- the law's own row stays, over a call of the reference -/
theorem LI_w {hX h2 : xH} {σ' : mS} {τ' : mL} (hM : Mo (r, ad, hX, z) σ' τ' h2) (hne : w ≠ r ∧ ∀ k p, mk k = some p → w ≠ ad k) : h2 w = hX w := hM.2.2.2 w hne.1 hne.2
end LI1
/-! rows of the law's body -/
/-- what the law's body stands on: the script of L ints xs at the cell b -/
def LW (F : xF) (G : xG) (B : Nat) (Y : Nat → Nat) (b L : Nat) (xs : Nat → Int32) : Prop := xC F G B cL_law RL 8 13 518 601024 7293034 ∧ yK B Y (xFs F) ∧ va_X b L xs (xFs F) (xFs F).heap ∧ b < (xFs F).heap.size ∧ B = (xFs F).heap.size ∧ (xFl F).stackTraces = false ∧ L ≤ 3072
def bo (v : Int32) : Int32 := if v = 0 then 0 else 1
theorem bo_or (v : Int32) : bo v = 0 ∨ bo v = 1 := by
  unfold bo
  by_cases g : v = 0
  · rw [if_pos g]; exact Or.inl rfl
  · rw [if_neg g]; exact Or.inr rfl
theorem and31 (x : Int32) : ∃ c, c < 32 ∧ x &&& 31 = J c := by
  refine ⟨x.toBitVec.toNat % 32, Nat.mod_lt _ (by decide), ?_⟩
  apply Int32.toBitVec_inj.mp
  apply BitVec.eq_of_toNat_eq
  show (x.toBitVec &&& (31 : BitVec 32)).toNat = (BitVec.ofNat 32 (x.toBitVec.toNat % 32)).toNat
  rw [BitVec.toNat_and, BitVec.toNat_ofNat]
  have e : (31 : BitVec 32).toNat = 2 ^ 5 - 1 := by decide
  rw [e, Nat.and_two_pow_sub_one_eq_mod]
  have : x.toBitVec.toNat % 32 < 32 := Nat.mod_lt _ (by decide)
  omega
theorem vp_J {k n : Nat} (h : k < n) (hn : n < 2147483648) : vp_in (J k) n := by
  intro t
  rcases t with t | t
  · exact J_nneg (by omega) t
  · rw [J_nat (by omega)] at t
    omega
section LR
variable {F : xF} {G : xG} {B : Nat} {Y : Nat → Nat} {b L : Nat} {xs : Nat → Int32} {Q : State → Prop} {h : xH} {sz cs ss pc : Nat} {lv : List (Nat × Value)} {st : List Value}
theorem X_wid {nL cs' ss' : Nat} (h1 : cs ≤ cs') (h2 : ss ≤ ss') (k : X F G B Q nL h sz cs' ss' pc lv st) : X F G B Q nL h sz cs ss pc lv st := fun H locs ls hz hR hS hl => W.widen h1 h2 (k H locs ls hz hR hS hl)
theorem X_sld (E : LW F G B Y b L xs) {i : Int32} (hin : vp_in i L) (d : decode cL_law pc = .ok (.iaload, 1)) (k : X F G B Q 8 h sz cs ss (pc + 1) lv (.int (xs i.toNatClampNeg) :: st)) : X F G B Q 8 h sz cs ss pc lv (.int i :: .ref b :: st) := fun H locs ls hz hR hS hl => va_sld (A := fun q => B ≤ q) E.1.1 E.1.2.1 E.2.2.1 E.2.2.2.1 (by have := E.2.2.2.1; have := E.2.2.2.2.1; omega) hS hin d (k H locs ls hz hR hS hl)
theorem X_slen (E : LW F G B Y b L xs) (d : decode cL_law pc = .ok (.arraylength, 1)) (k : X F G B Q 8 h sz cs ss (pc + 1) lv (.int (J L) :: st)) : X F G B Q 8 h sz cs ss pc lv (.ref b :: st) := fun H locs ls hz hR hS hl => va_slen (A := fun q => B ≤ q) E.1.1 E.1.2.1 E.2.2.1 E.2.2.2.1 (by have := E.2.2.2.1; have := E.2.2.2.2.1; omega) hS d (k H locs ls hz hR hS hl)
theorem L_arg (E : LW F G B Y b L xs) {i j : Nat} {jj : Int} (h0 : xget lv 0 = some (.ref b)) (h4 : xget lv 4 = some (.int (J i))) (hj : Int32.ofInt jj = J j) (hi : i + j < L) (d1 : decode cL_law pc = .ok (.aload_n 0, 1)) (d2 : decode cL_law (pc + 1) = .ok (.iload 4, 2)) (d3 : decode cL_law (pc + 3) = .ok (.iconst jj, 1)) (d4 : decode cL_law (pc + 4) = .ok (.iadd, 1)) (d5 : decode cL_law (pc + 5) = .ok (.iaload, 1)) (k : X F G B Q 8 h sz cs ss (pc + 6) lv (.int (xs (i + j)) :: st)) : X F G B Q 8 h sz cs ss pc lv st := by
  have C := E.1
  have hL := E.2.2.2.2.2.2
  refine X_aload_n C d1 h0 (X_iload C d2 h4 (X_iconst C d3 hj (X_iadd C d4 ?_)))
  rw [J_add]
  refine X_sld E (vp_J hi (by omega)) d5 ?_
  rw [J_nat (by omega)]
  exact k
theorem L_bool (E : LW F G B Y b L xs) {v : Int32} (d1 : decode cL_law pc = .ok (.ifCond .eq 7, 3)) (d2 : decode cL_law (pc + 3) = .ok (.iconst 1, 1)) (d3 : decode cL_law (pc + 4) = .ok (.goto 4, 3)) (d4 : decode cL_law (pc + 7) = .ok (.iconst 0, 1)) (k : X F G B Q 8 h sz cs ss (pc + 8) lv (.int (bo v) :: st)) : X F G B Q 8 h sz cs ss pc lv (.int v :: st) := by
  have C := E.1
  refine X_if_eq C (tgt := pc + 7) d1 (by omega) (fun t => ?_) (fun t => ?_)
  · refine X_iconst C (v := 0) d4 (by decide) ?_
    have e : bo v = 0 := if_pos t
    rw [e] at k
    exact k
  · refine X_iconst C (v := 1) d2 (by decide) (X_goto C (tgt := pc + 8) d3 (by omega) ?_)
    have e : bo v = 1 := if_neg t
    rw [e] at k
    exact k
end LR
/-- the law's locals between calls -/
abbrev lvL (b o r w n : Nat) : List (Nat × Value) := [(0, .ref b), (1, .ref o), (2, .ref r), (3, .ref w), (4, .int (J (6 * n)))]
def cB (κ : kS) (n : Nat) : Nat := 60 + 7 * N (κ 3 0 0) + 4 * n
def sB (κ : kS) (n : Nat) : Nat := 20000 + 66 * N (κ 3 0 0) + 70 * n
/-- what comes behind a call: the next step of the loop -/
def NX (F : xF) (G : xG) (B : Nat) (Q : State → Prop) (b o r : Nat) (ad : Nat → Nat) (w n : Nat) : Prop := ∀ (D : kD) (κ : kS) (σ : mS) (τ : mL) (h : xH) (z cs ss : Nat), LI (n + 1) o r ad w D κ σ τ h z → cs ≤ cB κ (n + 1) → ss ≤ sB κ (n + 1) → X F G B Q 8 h z cs ss 1375 (lvL b o r w n) []
theorem LI.st {n o r w z : Nat} {ad : Nat → Nat} {D : kD} {κ : kS} {σ : mS} {τ : mL} {h : xH} (I : LI n o r ad w D κ σ τ h z) : N (κ 3 0 0) ≤ 200 := I.1.2.2.2.1.2.2.1.2
