/-! THE REFERENCE: tryMove -/
def jk : List Nat := [15, 16, 17, 18, 38, 39]
theorem J_sub1 (k : Nat) : J (k + 1) - 1 = J k := by
  have e : J (k + 1) = J k + 1 := (J_add k 1).symm
  rw [e, Int32.add_sub_cancel]
def hlp (σ : mS) (pl : Nat → Nat) : Int32 := it (fun a s => if s = 0 then (if a < N (σ 1 0) then (if σ 4 (6 * a + pl a) ≤ 0 then 0 else 1) else 0) else (1 : Int32)) 0 3 0
theorem hl_hlp {σ ρ : mS} {pl : Nat → Nat} (hy : yq ρ σ) (h : ∀ a, a < N (σ 1 0) → ρ 38 a = J (pl a) ∧ pl a < 6) : hl ρ = hlp σ pl := by
  unfold hl hlp
  refine it_cg (hi := 3) (fun a s ha => ?_) 3 0 0 (by omega)
  unfold sm1
  rw [hy 1 0 (by decide) (by decide)]
  by_cases hm : a < N (σ 1 0)
  · have e := h a hm
    rw [hy 4 _ (by decide) (by decide), e.1, show N (J (pl a)) = pl a from J_nat (by omega)]
  · rw [if_neg hm, if_neg hm]
/-- the state after a move that brought a new STATE x from STATE k -/
def tmS (σ : mS) (x k : Nat) (pl : Nat → Nat) (Zb Ze : Nat → Int32) (sn : Int32) (mv : Nat → Int32) : mS := fun s b =>
  if s = 22 then (if b = 0 then σ 22 0 + 1 else σ 22 b)
  else if s = 24 then (if 3 * x ≤ b ∧ b < 3 * x + 3 then (if b - 3 * x < N (σ 1 0) then J (pl (b - 3 * x)) else (-2 : Int32)) else σ 24 b)
  else if s = 25 then (if 25 * x ≤ b ∧ b < 25 * x + 25 then Zb (b - 25 * x) else σ 25 b)
  else if s = 26 then (if 25 * x ≤ b ∧ b < 25 * x + 25 then Ze (b - 25 * x) else σ 26 b)
  else if s = 27 then (if b = x then J k else σ 27 b)
  else if s = 28 then (if b = x then 0 else if b = k then σ 28 k + 1 else σ 28 b)
  else if s = 29 then (if b = x then (-2 : Int32) else σ 29 b)
  else if s = 30 then (if b = x then σ 30 k + 1 else σ 30 b)
  else if s = 31 then (if 4 * x ≤ b ∧ b < 4 * x + 4 then mv (b - 4 * x) else σ 31 b)
  else if s = 32 then (if b = x then sn else σ 32 b)
  else if s = 33 then (if b = x then hlp σ pl else σ 33 b)
  else if s = 40 then (if b = 0 then σ 40 0 + 1 else σ 40 b)
  else σ s b
def mvs (a w : Nat) (y u : Int32) : Nat → Int32 := fun i => if i = 0 then J a else if i = 1 then J w else if i = 2 then (if 0 ≤ y then y else (-2 : Int32)) else (if 0 ≤ y then u else (-2 : Int32))
/-- what is known of go for one move -/
def gHyp (σ : mS) (τ : mL) (a w : Nat) (y u : Int32) (p0 pX : Nat → Nat) (gz : Nat → zQ → zQ) : Prop := ∀ (ρ : mS) (m : Nat) (q : zQ) (x : Int32), yq ρ σ → m ≤ 5 → 1 ≤ m → ρ 16 0 = J m → (∀ i, i < N (σ 1 0) → ρ 38 i = J (p0 i)) → ∃ ρ', Ev (fun n => Mo_go_f n (J a) (J w) y u x (ez ρ q) τ) (0, ez ρ' (qar σ m pX (gz m q)), τ) ∧ sx [18, 38, 39] ρ' ρ ∧ ρ' 39 0 = sel x ((ql σ m pX (gz m q)).1 4) ∧ ∀ i, i < N (σ 1 0) → ρ' 38 i = J (pX i) ∧ pX i < 6
section TryMove
variable {σ : mS} {τ : mL} {R : Int32 × mS × mL} {q : zQ} {k a w : Nat} {y u : Int32}
def nw (σ : mS) (ρ : mS) (k : Nat) : Nat → Int32 := fun i => if i < N (σ 1 0) then σ 24 (3 * k + i) else ρ 38 i
theorem tm_3 (h1 : sml (σ 1 0) 3) (hk : k < 200) {x6 x7 : Int32} (e : Ev (fun n => Mo_tryMove_f n 3 (J k) (J a) (J w) y u (J (N (σ 1 0))) 0 (ez (st σ 38 (nw σ σ k)) q) τ) R) : Ev (fun n => Mo_tryMove_f n 0 (J k) (J a) (J w) y u x6 x7 (ez σ q) τ) R := by
  have hB : N (σ 1 0) ≤ 3 := h1.2
  refine Ev.succ (fun n => Mo_tryMove_e0 n _ _ _ _ _ _ _ _ _) ?_
  unfold Mo_tryMove_t0
  have key := Ev.up (f := fun n i T => Mo_tryMove_f n 3 (J k) (J a) (J w) y u (J i) 0 (ez (st σ 38 T) q) τ) (R := R) (N (σ 1 0)) (fun i T => fu T i (σ 24 (3 * k + i))) (fun _ _ => True) (fun _ _ _ _ => trivial) (fun i T hi _ ee => by
    refine Ev.succ (fun n => Mo_tryMove_e3 n _ _ _ _ _ _ _ _ _) ?_
    unfold Mo_tryMove_t3
    have r1 : ez (st σ 38 T) q 1 0 = σ 1 0 := by rw [ez_ne _ _ _ (by decide) (by decide), st_ne _ (by decide)]
    refine Ev.neg (by rw [r1]; exact sml_nle h1 (by omega) hi) ?_
    have a1 : xin (J (3 * k + i)) 600 = true := xin_J (by omega) (by omega)
    have a2 : xin (J i) 3 = true := xin_J (by omega) (by omega)
    have b1 : Int32.toNatClampNeg (J (3 * k + i)) = 3 * k + i := J_nat (by omega)
    have b2 : Int32.toNatClampNeg (J i) = i := J_nat (by omega)
    have c1 : J i + 1 = J (i + 1) := J_add i 1
    simp only [J3, J_mul, J_add, a1, a2, b1, b2, c1, if_true, bnd]
    rw [ez_su _ _ _ _ (by decide) (by decide), su_st, ez_ne _ _ _ (by decide) (by decide), st_ne _ (by decide)]
    exact ee) (N (σ 1 0)) 0 (σ 38) (by omega) trivial
  rw [st_id] at key
  refine key ?_
  rw [it_fu0]
  exact e
theorem tm_199 (h1 : sml (σ 1 0) 3) (hk : k < 200) {x6 : Int32} (e : Ev (fun n => Mo_tryMove_f n 245 (J k) (J a) (J w) y u x6 (J 25) (ez (su (st σ 38 (nw σ σ k)) 16 0 5) (szq (σ 26) k q.1, 0)) τ) R) : Ev (fun n => Mo_tryMove_f n 199 (J k) (J a) (J w) y u x6 0 (ez σ q) τ) R := by
  have hB : N (σ 1 0) ≤ 3 := h1.2
  have key := Ev.up (f := fun n i T => Mo_tryMove_f n 199 (J k) (J a) (J w) y u x6 (J i) (ez (st σ 38 T) q) τ) (R := R) (N (σ 1 0)) (fun i T => fu T i (σ 24 (3 * k + i))) (fun _ _ => True) (fun _ _ _ _ => trivial) (fun i T hi _ ee => by
    refine Ev.succ (fun n => Mo_tryMove_e199 n _ _ _ _ _ _ _ _ _) ?_
    unfold Mo_tryMove_t199
    have r1 : ez (st σ 38 T) q 1 0 = σ 1 0 := by rw [ez_ne _ _ _ (by decide) (by decide), st_ne _ (by decide)]
    refine Ev.neg (by rw [r1]; exact sml_nle h1 (by omega) hi) ?_
    have a1 : xin (J (3 * k + i)) 600 = true := xin_J (by omega) (by omega)
    have a2 : xin (J i) 3 = true := xin_J (by omega) (by omega)
    have b1 : Int32.toNatClampNeg (J (3 * k + i)) = 3 * k + i := J_nat (by omega)
    have b2 : Int32.toNatClampNeg (J i) = i := J_nat (by omega)
    have c1 : J i + 1 = J (i + 1) := J_add i 1
    simp only [J3, J_mul, J_add, a1, a2, b1, b2, c1, if_true, bnd]
    rw [ez_su _ _ _ _ (by decide) (by decide), su_st, ez_ne _ _ _ (by decide) (by decide), st_ne _ (by decide)]
    exact ee) (N (σ 1 0)) 0 (σ 38) (by omega) trivial
  rw [st_id] at key
  refine key ?_
  rw [it_fu0]
  refine Ev.succ (fun n => Mo_tryMove_e199 n _ _ _ _ _ _ _ _ _) ?_
  unfold Mo_tryMove_t199
  have r1 : ∀ T, ez (st σ 38 T) q 1 0 = σ 1 0 := fun T => by rw [ez_ne _ _ _ (by decide) (by decide), st_ne _ (by decide)]
  refine Ev.pos (by rw [r1]; exact sml_le h1) ?_
  simp only [bnd]
  rw [ez_su _ _ _ _ (by decide) (by decide), ez_u17]
  have k2 := Ev.up (f := fun n i Z => Mo_tryMove_f n 245 (J k) (J a) (J w) y u x6 (J i) (ez (su (st σ 38 (nw σ σ k)) 16 0 5) (Z, 0)) τ) (R := R) 25 (fun i Z => fu Z i (σ 26 (25 * k + i))) (fun _ _ => True) (fun _ _ _ _ => trivial) (fun i Z hi _ ee => by
    refine Ev.succ (fun n => Mo_tryMove_e245 n _ _ _ _ _ _ _ _ _) ?_
    unfold Mo_tryMove_t245
    refine Ev.neg (by rw [J25, J_le (by omega) (by omega)]; omega) ?_
    have a1 : xin (J (25 * k + i)) 5000 = true := xin_J (by omega) (by omega)
    have a2 : xin (J i) 25 = true := xin_J (by omega) (by omega)
    have b1 : Int32.toNatClampNeg (J (25 * k + i)) = 25 * k + i := J_nat (by omega)
    have b2 : Int32.toNatClampNeg (J i) = i := J_nat (by omega)
    have c1 : J i + 1 = J (i + 1) := J_add i 1
    simp only [J25, J_mul, J_add, a1, a2, b1, b2, c1, if_true, bnd, ez_u15]
    rw [ez_ne _ _ _ (by decide) (by decide), su_n (by decide), st_ne _ (by decide)]
    exact ee) 25 0 q.1 (by omega) trivial
  refine k2 ?_
  rw [it_fu0]
  exact e
/-- the zone when a move has come, LET GO where that is done -/
def qB (σ : mS) (k : Nat) (pX : Nat → Nat) (gz : Nat → zQ → zQ) (Z0 : Nat → Int32) : zQ := if σ 20 0 = 0 then qar σ 4 pX (gz 4 (szq (σ 25) k Z0, 0)) else qlt (σ 19) (qar σ 4 pX (gz 4 (szq (σ 25) k Z0, 0)))
def qE (σ : mS) (k : Nat) (pX : Nat → Nat) (gz : Nat → zQ → zQ) (Z0 : Nat → Int32) : zQ := qar σ 5 pX (gz 5 (szq (σ 26) k Z0, 0))
def seenP (σ : mS) (pX : Nat → Nat) (Z : Nat → Int32) : Prop := ∃ j, j < N (σ 22 0) ∧ (∀ i, i < N (σ 1 0) → σ 24 (3 * j + i) = J (pX i)) ∧ sZ σ Z j
def tmT (f : Nat → Int32 → Int32 → Int32 → Int32 → Int32 → Int32 → Int32 → mS → mL → Option (Int32 × mS × mL)) (n : Nat) (x1 : Int32) (x2 : Int32) (x3 : Int32) (x4 : Int32) (x5 : Int32) (s : mS) (t : mL) : Option (Int32 × mS × mL) := (if s 17 0 = 0 then bnd (su s 40 0 ((s 40 0) + ((1 : Int32)))) (fun s6 => obd (Mo_isSeen_f n 0 0 0 0 s6 t) (fun r7 => (if r7.1 = 0 then (if r7.2.1 22 0 = (200 : Int32) then bnd (su r7.2.1 37 0 ((1 : Int32))) (fun s30 => some (0, s30, r7.2.2)) else obd (Mo_add_f n 0 (x1) 0 0 0 r7.2.1 r7.2.2) (fun r10 => (if xin (((4 : Int32)) * ((r10.2.1 22 0) - ((1 : Int32)))) 800 = true then bnd (su r10.2.1 31 (Int32.toNatClampNeg (((4 : Int32)) * ((r10.2.1 22 0) - ((1 : Int32))))) (x2)) (fun s12 => (if xin ((((4 : Int32)) * ((r10.2.1 22 0) - ((1 : Int32)))) + ((1 : Int32))) 800 = true then bnd (su s12 31 (Int32.toNatClampNeg ((((4 : Int32)) * ((r10.2.1 22 0) - ((1 : Int32)))) + ((1 : Int32)))) (x3)) (fun s14 => (if 0 ≤ x4 then (if xin ((((4 : Int32)) * ((r10.2.1 22 0) - ((1 : Int32)))) + ((2 : Int32))) 800 = true then bnd (su s14 31 (Int32.toNatClampNeg ((((4 : Int32)) * ((r10.2.1 22 0) - ((1 : Int32)))) + ((2 : Int32)))) (x4)) (fun s17 => (if 0 ≤ x4 then (if xin ((((4 : Int32)) * ((r10.2.1 22 0) - ((1 : Int32)))) + ((3 : Int32))) 800 = true then bnd (su s17 31 (Int32.toNatClampNeg ((((4 : Int32)) * ((r10.2.1 22 0) - ((1 : Int32)))) + ((3 : Int32)))) (x5)) (fun s20 => f 199 (x1) (x2) (x3) (x4) (x5) ((r10.2.1 22 0) - ((1 : Int32))) ((0 : Int32)) s20 r10.2.2) else none) else (if xin ((((4 : Int32)) * ((r10.2.1 22 0) - ((1 : Int32)))) + ((3 : Int32))) 800 = true then bnd (su s17 31 (Int32.toNatClampNeg ((((4 : Int32)) * ((r10.2.1 22 0) - ((1 : Int32)))) + ((3 : Int32)))) (((-2) : Int32))) (fun s22 => f 199 (x1) (x2) (x3) (x4) (x5) ((r10.2.1 22 0) - ((1 : Int32))) ((0 : Int32)) s22 r10.2.2) else none))) else none) else (if xin ((((4 : Int32)) * ((r10.2.1 22 0) - ((1 : Int32)))) + ((2 : Int32))) 800 = true then bnd (su s14 31 (Int32.toNatClampNeg ((((4 : Int32)) * ((r10.2.1 22 0) - ((1 : Int32)))) + ((2 : Int32)))) (((-2) : Int32))) (fun s24 => (if 0 ≤ x4 then (if xin ((((4 : Int32)) * ((r10.2.1 22 0) - ((1 : Int32)))) + ((3 : Int32))) 800 = true then bnd (su s24 31 (Int32.toNatClampNeg ((((4 : Int32)) * ((r10.2.1 22 0) - ((1 : Int32)))) + ((3 : Int32)))) (x5)) (fun s27 => f 199 (x1) (x2) (x3) (x4) (x5) ((r10.2.1 22 0) - ((1 : Int32))) ((0 : Int32)) s27 r10.2.2) else none) else (if xin ((((4 : Int32)) * ((r10.2.1 22 0) - ((1 : Int32)))) + ((3 : Int32))) 800 = true then bnd (su s24 31 (Int32.toNatClampNeg ((((4 : Int32)) * ((r10.2.1 22 0) - ((1 : Int32)))) + ((3 : Int32)))) (((-2) : Int32))) (fun s29 => f 199 (x1) (x2) (x3) (x4) (x5) ((r10.2.1 22 0) - ((1 : Int32))) ((0 : Int32)) s29 r10.2.2) else none))) else none))) else none)) else none))) else bnd (su r7.2.1 41 0 ((r7.2.1 41 0) + ((1 : Int32)))) (fun s31 => some (0, s31, r7.2.2))))) else some (0, s, t))
theorem tm_T (h1 : sml (σ 1 0) 3) {pX : Nat → Nat} {gz : Nat → zQ → zQ} (hk : k < 200) (hg : gHyp σ τ a w y u (fun i => N (σ 24 (3 * k + i))) pX gz) (hat : ∀ i, i < N (σ 1 0) → sml (σ 24 (3 * k + i)) 5) {x7 : Int32} : ∃ ρ, (∀ R, Ev (fun n => tmT (Mo_tryMove_f n) n (J k) (J a) (J w) y u (ez ρ (qB σ k pX gz q.1)) τ) R → Ev (fun n => Mo_tryMove_f n 3 (J k) (J a) (J w) y u (J (N (σ 1 0))) x7 (ez (st σ 38 (nw σ σ k)) q) τ) R) ∧ sx [16, 18, 38, 39] ρ σ ∧ ∀ i, i < N (σ 1 0) → ρ 38 i = J (pX i) ∧ pX i < 6 := by
  have s0 : sx [16, 18, 38, 39] (su (st σ 38 (nw σ σ k)) 16 0 4) σ := (sx.su _ _ _ (by decide)).trans (sx.st _ _ (by decide))
  have r25 : st σ 38 (nw σ σ k) 25 = σ 25 := by funext b; exact st_ne b (by decide)
  obtain ⟨ρ, E1, s1, _, p1⟩ := hg (su (st σ 38 (nw σ σ k)) 16 0 4) 4 (szq (σ 25) k q.1, 0) 0 (s0.yq (by decide)) (by omega) (by omega) (by rw [su_e]; rfl) (fun i hi => by
    rw [su_n (by decide), st_eq]
    unfold nw
    rw [if_pos hi]
    exact (hat i hi).1)
  have s2 : sx [16, 18, 38, 39] ρ σ := (s1.mono (by decide)).trans s0
  refine ⟨ρ, fun R e => ?_, s2, p1⟩
  refine Ev.succ (fun n => Mo_tryMove_e3 n _ _ _ _ _ _ _ _ _) ?_
  unfold Mo_tryMove_t3
  refine Ev.pos (by rw [ez_ne _ _ _ (by decide) (by decide), st_ne _ (by decide)]; exact sml_le h1) ?_
  refine Ev.ob (showZone_q hk) ?_
  dsimp only
  rw [r25]
  refine Ev.ob E1 ?_
  dsimp only
  unfold qB at e
  have h20 : ez ρ (qar σ 4 pX (gz 4 (szq (σ 25) k q.1, 0))) 20 0 = σ 20 0 := by rw [ez_ne _ _ _ (by decide) (by decide), s2 20 0 (by decide)]
  by_cases hl : σ 20 0 = 0
  · rw [if_pos hl] at e
    refine Ev.pos (by rw [h20]; exact hl) ?_
    exact e
  · rw [if_neg hl] at e
    refine Ev.neg (by rw [h20]; exact hl) ?_
    have r16 : ρ 16 0 = J 4 := by rw [s1 16 0 (by decide), su_e]; rfl
    have r19 : ρ 19 = σ 19 := by funext b; exact s2 19 b (by decide)
    refine Ev.ob (let_q r16) ?_
    dsimp only
    rw [r19]
    exact e
/-- how a move ends -/
def tmO (σ : mS) (k a w : Nat) (y u : Int32) (pX : Nat → Nat) (gz : Nat → zQ → zQ) (Z0 : Nat → Int32) (σ' : mS) : Prop :=
  (¬ (qB σ k pX gz Z0).2 = 0 → sx jk σ' σ) ∧
  ((qB σ k pX gz Z0).2 = 0 → seenP σ pX (qB σ k pX gz Z0).1 → sx jk σ' (su (su σ 40 0 (σ 40 0 + 1)) 41 0 (σ 41 0 + 1))) ∧
  ((qB σ k pX gz Z0).2 = 0 → ¬ seenP σ pX (qB σ k pX gz Z0).1 → σ 22 0 = 200 → sx jk σ' (su (su σ 40 0 (σ 40 0 + 1)) 37 0 1)) ∧
  ((qB σ k pX gz Z0).2 = 0 → ¬ seenP σ pX (qB σ k pX gz Z0).1 → ¬ (σ 22 0 = 200) → sx jk σ' (tmS σ (N (σ 22 0)) k pX (qB σ k pX gz Z0).1 (qE σ k pX gz (qB σ k pX gz Z0).1).1 (sel 1 ((ql σ 5 pX (gz 5 (szq (σ 26) k (qB σ k pX gz Z0).1, 0))).1 4)) (mvs a w y u)))
theorem tryMove_q (h1 : sml (σ 1 0) 3) (hs : sml (σ 22 0) 200) (hk : k < N (σ 22 0)) {pX : Nat → Nat} {gz : Nat → zQ → zQ} (hg : gHyp σ τ a w y u (fun i => N (σ 24 (3 * k + i))) pX gz) (hat : ∀ i, i < N (σ 1 0) → sml (σ 24 (3 * k + i)) 5) {x6 x7 : Int32} : ∃ σ', Ev (fun n => Mo_tryMove_f n 0 (J k) (J a) (J w) y u x6 x7 (ez σ q) τ) (0, σ', τ) ∧ tmO σ k a w y u pX gz q.1 σ' := by
  have hB : N (σ 22 0) ≤ 200 := hs.2
  have hk2 : k < 200 := by omega
  obtain ⟨ρ, T, s2, p2⟩ := tm_T (q := q) (x7 := 0) h1 hk2 hg hat
  have y2 : yq ρ σ := s2.yq (by decide)
  have r40 : ρ 40 0 = σ 40 0 := s2 40 0 (by decide)
  have r41 : ρ 41 0 = σ 41 0 := s2 41 0 (by decide)
  have r22 : ρ 22 0 = σ 22 0 := s2 22 0 (by decide)
  have r1 : ρ 1 0 = σ 1 0 := s2 1 0 (by decide)
  have jq : ∀ (π : mS) (q' : zQ), sx jk (ez π q') π := fun π q' s b hsb => ez_ne π q' b (fun e => hsb (e ▸ by decide)) (fun e => hsb (e ▸ by decide))
  have sj : sx jk ρ σ := s2.mono (by decide)
  by_cases hE : (qB σ k pX gz q.1).2 = 0
  · have e17 : ez ρ (qB σ k pX gz q.1) 17 0 = 0 := by rw [ez_17]; exact hE
    have e40 : ez ρ (qB σ k pX gz q.1) 40 0 = σ 40 0 := by rw [ez_ne _ _ _ (by decide) (by decide)]; exact r40
    let ρ1 : mS := su ρ 40 0 (σ 40 0 + 1)
    have sρ1 : sx [16, 18, 38, 39, 40] ρ1 σ := (sx.su _ _ _ (by decide)).trans (s2.mono (by decide))
    have p1 : ∀ i, i < N (σ 1 0) → ρ1 38 i = J (pX i) ∧ pX i < 6 := fun i hi => by
      rw [show ρ1 38 i = ρ 38 i from su_n (by decide)]
      exact p2 i hi
    have n1 : ρ1 1 0 = σ 1 0 := sρ1 1 0 (by decide)
    have n22 : ρ1 22 0 = σ 22 0 := sρ1 22 0 (by decide)
    obtain ⟨r, er, hr, hri⟩ := isSeen_q (σ := ρ1) (τ := τ) (q := qB σ k pX gz q.1) (x1 := 0) (x2 := 0) (x3 := 0) (by rw [n1]; exact h1) (by rw [n22]; exact hs)
    have hseen : r = 1 ↔ seenP σ pX (qB σ k pX gz q.1).1 := by
      rw [hri, n22]
      unfold seenP sP sZ
      refine ⟨fun ⟨j, t1, t2, t3⟩ => ⟨j, t1, fun i hi => ?_, fun i hi h4 => ?_⟩, fun ⟨j, t1, t2, t3⟩ => ⟨j, t1, fun i hi => ?_, fun i hi h4 => ?_⟩⟩
      · rw [← (p1 i hi).1, ← sρ1 24 _ (by decide)]
        exact t2 i (by rw [n1]; exact hi)
      · rw [← sρ1 25 _ (by decide)]
        exact t3 i hi h4
      · rw [n1] at hi
        rw [(p1 i hi).1, sρ1 24 _ (by decide)]
        exact t2 i hi
      · rw [sρ1 25 _ (by decide)]
        exact t3 i hi h4
    rcases hr with hr | hr
    · have nseen : ¬ seenP σ pX (qB σ k pX gz q.1).1 := fun t => by
        have := hseen.mpr t
        rw [hr] at this
        exact absurd this (by decide)
      by_cases h200 : σ 22 0 = 200
      · refine ⟨ez (su ρ1 37 0 1) (qB σ k pX gz q.1), tm_3 h1 hk2 (T _ ?_), fun t => absurd hE t, fun _ t => absurd t nseen, fun _ _ _ => ?_, fun _ _ t => absurd h200 t⟩
        · unfold tmT
          refine Ev.pos e17 ?_
          simp only [bnd]
          rw [e40, ez_su _ _ _ _ (by decide) (by decide)]
          refine Ev.ob er (Ev.pos hr ?_)
          refine Ev.pos (by show ez ρ1 (qB σ k pX gz q.1) 22 0 = 200; rw [ez_ne _ _ _ (by decide) (by decide), n22]; exact h200) ?_
          rw [ez_su _ _ _ _ (by decide) (by decide)]
          exact Ev.ret
        · refine (jq _ _).trans (fun s b hsb => ?_)
          unfold su
          by_cases c1 : s = 37 ∧ b = 0
          · rw [if_pos c1, if_pos c1]
          · rw [if_neg c1, if_neg c1]
            show (if s = 40 ∧ b = 0 then σ 40 0 + 1 else ρ s b) = _
            by_cases c2 : s = 40 ∧ b = 0
            · rw [if_pos c2, if_pos c2]
            · rw [if_neg c2, if_neg c2]
              exact sj s b hsb
      · have hx : N (σ 22 0) < 200 := by
          rcases Nat.lt_or_ge (N (σ 22 0)) 200 with h | h
          · exact h
          · exfalso
            apply h200
            have e : N (σ 22 0) = 200 := by omega
            have := hs.1
            rw [e] at this
            exact this
        let x : Nat := N (σ 22 0)
        let ρ2 : mS := adA ρ1 (qB σ k pX gz q.1).1 x (J k)
        have hadd := addA_q (σ := ρ1) (τ := τ) (q := qB σ k pX gz q.1) (x2 := 0) (x3 := 0) (x4 := 0) (k := x) (p := k) (by rw [n1]; exact h1) (fun i hi => by
          rw [n1] at hi
          rw [(p1 i hi).1]
          exact sml_J (by have := (p1 i hi).2; omega) (by omega)) hx (by rw [n22]; exact hs.1) hk2
        have nk : N (J k) = k := J_nat (by omega)
        have x22 : ρ2 22 0 = J (x + 1) := by
          show adA ρ1 (qB σ k pX gz q.1).1 x (J k) 22 0 = J (x + 1)
          unfold adA ad5 ad3
          simp only [su_n (show (22 : Nat) ≠ 28 by decide), su_n (show (22 : Nat) ≠ 30 by decide), su_n (show (22 : Nat) ≠ 29 by decide), su_n (show (22 : Nat) ≠ 27 by decide), su_n (show (22 : Nat) ≠ 33 by decide), st_ne _ (show (22 : Nat) ≠ 25 by decide), st_ne _ (show (22 : Nat) ≠ 24 by decide), su_e]
          rw [n22]
          have e : σ 22 0 = J x := hs.1
          rw [e]
          exact J_add x 1
        let ρ3 : mS := su (su (su (su ρ2 31 (4 * x) (J a)) 31 (4 * x + 1) (J w)) 31 (4 * x + 2) (if 0 ≤ y then y else (-2 : Int32))) 31 (4 * x + 3) (if 0 ≤ y then u else (-2 : Int32))
        have r3 : ∀ s b, s ≠ 31 → ρ3 s b = ρ2 s b := fun s b h => by
          show su (su (su (su ρ2 31 (4 * x) (J a)) 31 (4 * x + 1) (J w)) 31 (4 * x + 2) _) 31 (4 * x + 3) _ s b = ρ2 s b
          rw [su_n h, su_n h, su_n h, su_n h]
        have q24 : ∀ i, i < 3 → ρ2 24 (3 * k + i) = σ 24 (3 * k + i) := fun i hi => by
          show adA ρ1 (qB σ k pX gz q.1).1 x (J k) 24 (3 * k + i) = σ 24 (3 * k + i)
          unfold adA ad5 ad3
          simp only [su_n (show (24 : Nat) ≠ 28 by decide), su_n (show (24 : Nat) ≠ 30 by decide), su_n (show (24 : Nat) ≠ 29 by decide), su_n (show (24 : Nat) ≠ 27 by decide), su_n (show (24 : Nat) ≠ 33 by decide), st_ne _ (show (24 : Nat) ≠ 25 by decide), st_eq]
          unfold at24
          rw [if_neg (by show ¬ (3 * N (σ 22 0) ≤ 3 * k + i ∧ _); omega)]
          exact sρ1 24 _ (by decide)
        have q26 : ρ2 26 = σ 26 := by
          funext b
          show adA ρ1 (qB σ k pX gz q.1).1 x (J k) 26 b = σ 26 b
          unfold adA ad5 ad3
          simp only [su_n (show (26 : Nat) ≠ 28 by decide), su_n (show (26 : Nat) ≠ 30 by decide), su_n (show (26 : Nat) ≠ 29 by decide), su_n (show (26 : Nat) ≠ 27 by decide), su_n (show (26 : Nat) ≠ 33 by decide), su_n (show (26 : Nat) ≠ 22 by decide), st_ne _ (show (26 : Nat) ≠ 25 by decide), st_ne _ (show (26 : Nat) ≠ 24 by decide)]
          exact sρ1 26 _ (by decide)
        have yy : yq ρ2 σ := fun s b g1 g2 => by
          show adA ρ1 (qB σ k pX gz q.1).1 x (J k) s b = σ s b
          unfold adA ad5 ad3
          rw [su_n (by omega), su_n (by omega), su_n (by omega), su_n (by omega), su_n (by omega), st_ne _ (by omega), su_n (by omega), st_ne _ (by omega), su_n (by omega)]
          refine sρ1 s b ?_
          simp only [List.mem_cons, List.not_mem_nil, or_false]
          omega
        have y3 : yq ρ3 σ := fun s b g1 g2 => (r3 s b (by omega)).trans (yy s b g1 g2)
        have h13 : ρ3 1 0 = σ 1 0 := y3 1 0 (by decide) (by decide)
        have nw3 : ∀ i, i < N (σ 1 0) → nw ρ3 ρ3 k i = J (N (σ 24 (3 * k + i))) := fun i hi => by
          unfold nw
          have hB1 : N (σ 1 0) ≤ 3 := h1.2
          rw [h13, if_pos hi, r3 24 _ (by decide), q24 i (by omega)]
          exact (hat i hi).1
        have e26 : ρ3 26 = σ 26 := by
          funext b
          rw [r3 26 b (by decide), q26]
        let ρ4 : mS := su (st ρ3 38 (nw ρ3 ρ3 k)) 16 0 5
        have s4 : sx [16, 38] ρ4 ρ3 := (sx.su _ _ _ (by decide)).trans (sx.st _ _ (by decide))
        obtain ⟨ρ5, E5, s5, c5, _⟩ := hg ρ4 5 (szq (σ 26) k (qB σ k pX gz q.1).1, 0) 1 (fun s b g1 g2 => (s4.yq (by decide) s b g1 g2).trans (y3 s b g1 g2)) (by omega) (by omega) (su_e _ _ _ _) (fun i hi => by
          show su (st ρ3 38 (nw ρ3 ρ3 k)) 16 0 5 38 i = _
          rw [su_n (by decide), st_eq]
          exact nw3 i hi)
        refine ⟨ez (kx ρ5 (qE σ k pX gz (qB σ k pX gz q.1).1).1 x) (qE σ k pX gz (qB σ k pX gz q.1).1), tm_3 h1 hk2 (T _ ?_), fun t => absurd hE t, fun _ t => absurd t nseen, fun _ _ t => absurd t h200, fun _ _ _ => ?_⟩
        · unfold tmT
          refine Ev.pos e17 ?_
          simp only [bnd]
          rw [e40, ez_su _ _ _ _ (by decide) (by decide)]
          refine Ev.ob er (Ev.pos hr ?_)
          refine Ev.neg (by show ¬ (ez ρ1 (qB σ k pX gz q.1) 22 0 = 200); rw [ez_ne _ _ _ (by decide) (by decide), n22]; exact h200) ?_
          refine Ev.ob hadd ?_
          dsimp only
          have e22 : ez (adA ρ1 (qB σ k pX gz q.1).1 x (J k)) (qB σ k pX gz q.1) 22 0 - 1 = J x := by
            rw [ez_ne _ _ _ (by decide) (by decide)]
            rw [show adA ρ1 (qB σ k pX gz q.1).1 x (J k) 22 0 = J (x + 1) from x22]
            exact J_sub1 x
          have hx2 : x < 200 := hx
          have a1 : xin (J (4 * x)) 800 = true := xin_J (by omega) (by omega)
          have a2 : xin (J (4 * x + 1)) 800 = true := xin_J (by omega) (by omega)
          have a3 : xin (J (4 * x + 2)) 800 = true := xin_J (by omega) (by omega)
          have a4 : xin (J (4 * x + 3)) 800 = true := xin_J (by omega) (by omega)
          have b1 : Int32.toNatClampNeg (J (4 * x)) = 4 * x := J_nat (by omega)
          have b2 : Int32.toNatClampNeg (J (4 * x + 1)) = 4 * x + 1 := J_nat (by omega)
          have b3 : Int32.toNatClampNeg (J (4 * x + 2)) = 4 * x + 2 := J_nat (by omega)
          have b4 : Int32.toNatClampNeg (J (4 * x + 3)) = 4 * x + 3 := J_nat (by omega)
          have c1 : J (4 * x) + (1 : Int32) = J (4 * x + 1) := J_add (4 * x) 1
          have c2 : J (4 * x) + (2 : Int32) = J (4 * x + 2) := J_add (4 * x) 2
          have c3 : J (4 * x) + (3 : Int32) = J (4 * x + 3) := J_add (4 * x) 3
          have c0 : (4 : Int32) * J x = J (4 * x) := J_mul 4 x
          have fin : Ev (fun n => Mo_tryMove_f n 199 (J k) (J a) (J w) y u (J x) 0 (ez ρ3 (qB σ k pX gz q.1)) τ) (0, ez (kx ρ5 (qE σ k pX gz (qB σ k pX gz q.1).1).1 x) (qE σ k pX gz (qB σ k pX gz q.1).1), τ) := by
            refine tm_199 (by rw [h13]; exact h1) hk2 ?_
            rw [e26]
            refine Ev.succ (fun n => Mo_tryMove_e245 n _ _ _ _ _ _ _ _ _) ?_
            unfold Mo_tryMove_t245
            refine Ev.pos (by decide) ?_
            refine Ev.ob E5 ?_
            dsimp only
            exact Ev.ob (keepExact_q hx2) Ev.ret
          simp only [e22, c0, c1, c2, c3, a1, a2, a3, a4, b1, b2, b3, b4, if_true]
          rw [ez_su _ _ _ _ (by decide) (by decide), ez_su _ _ _ _ (by decide) (by decide)]
          by_cases hy : 0 ≤ y
          · have f3 : ρ3 = su (su (su (su ρ2 31 (4 * x) (J a)) 31 (4 * x + 1) (J w)) 31 (4 * x + 2) y) 31 (4 * x + 3) u := by
              show su (su (su (su ρ2 31 (4 * x) (J a)) 31 (4 * x + 1) (J w)) 31 (4 * x + 2) (if 0 ≤ y then y else (-2 : Int32))) 31 (4 * x + 3) (if 0 ≤ y then u else (-2 : Int32)) = _
              rw [if_pos hy, if_pos hy]
            rw [f3] at fin
            refine Ev.pos hy (Ev.pos hy ?_)
            rw [ez_su _ _ _ _ (by decide) (by decide), ez_su _ _ _ _ (by decide) (by decide)]
            exact fin
          · have f3 : ρ3 = su (su (su (su ρ2 31 (4 * x) (J a)) 31 (4 * x + 1) (J w)) 31 (4 * x + 2) (-2 : Int32)) 31 (4 * x + 3) (-2 : Int32) := by
              show su (su (su (su ρ2 31 (4 * x) (J a)) 31 (4 * x + 1) (J w)) 31 (4 * x + 2) (if 0 ≤ y then y else (-2 : Int32))) 31 (4 * x + 3) (if 0 ≤ y then u else (-2 : Int32)) = _
              rw [if_neg hy, if_neg hy]
            rw [f3] at fin
            refine Ev.neg hy (Ev.neg hy ?_)
            rw [ez_su _ _ _ _ (by decide) (by decide), ez_su _ _ _ _ (by decide) (by decide)]
            exact fin
        · refine (jq _ _).trans (fun s b hsb => ?_)
          have hxk : k ≠ x := by
            show k ≠ N (σ 22 0)
            omega
          have g5 : s ∉ [16, 18, 38, 39] → ρ5 s b = ρ3 s b := fun g => (s5 s b (fun t => g (by simp at t ⊢; omega))).trans (s4 s b (fun t => g (by simp at t ⊢; omega)))
          have nj : s ∉ [16, 18, 38, 39] := fun t => hsb (by simp at t; unfold jk; simp; omega)
          have d2 : ρ2 s b = adA ρ1 (qB σ k pX gz q.1).1 x (J k) s b := rfl
          have gk : s ≠ 26 → s ≠ 32 → kx ρ5 (qE σ k pX gz (qB σ k pX gz q.1).1).1 x s b = ρ3 s b := fun g1 g2 => by
            unfold kx
            rw [su_n g2, st_ne _ g1]
            exact g5 nj
          have o1 : ∀ b, s ∉ [16, 18, 38, 39, 40] → ρ1 s b = σ s b := fun b g => sρ1 s b g
          unfold tmS
          by_cases c22 : s = 22
          · rw [if_pos c22, gk (by omega) (by omega), r3 s b (by omega), d2]
            subst c22
            unfold adA ad5 ad3
            rw [su_n (by decide), su_n (by decide), su_n (by decide), su_n (by decide), su_n (by decide), st_ne _ (by decide), su_n (by decide), st_ne _ (by decide)]
            unfold su
            by_cases hb : b = 0
            · rw [if_pos ⟨rfl, hb⟩, if_pos hb, n22]
            · rw [if_neg (fun t => hb t.2), if_neg hb]
              exact sρ1 22 b (by decide)
          rw [if_neg c22]
          by_cases c24 : s = 24
          · rw [if_pos c24, gk (by omega) (by omega), r3 s b (by omega), d2]
            subst c24
            unfold adA ad5 ad3
            rw [su_n (by decide), su_n (by decide), su_n (by decide), su_n (by decide), su_n (by decide), st_ne _ (by decide), su_n (by decide), st_eq]
            unfold at24
            rw [n1]
            by_cases hb : 3 * x ≤ b ∧ b < 3 * x + 3
            · rw [if_pos hb, if_pos hb]
              by_cases hm : b - 3 * x < N (σ 1 0)
              · rw [if_pos hm, if_pos hm]
                exact (p1 _ hm).1
              · rw [if_neg hm, if_neg hm]
            · rw [if_neg hb, if_neg hb]
              exact sρ1 24 b (by decide)
          rw [if_neg c24]
          by_cases c25 : s = 25
          · rw [if_pos c25, gk (by omega) (by omega), r3 s b (by omega), d2]
            subst c25
            unfold adA ad5 ad3
            rw [su_n (by decide), su_n (by decide), su_n (by decide), su_n (by decide), su_n (by decide), st_eq]
            unfold zn25
            by_cases hb : 25 * x ≤ b ∧ b < 25 * x + 25
            · rw [if_pos hb, if_pos hb]
            · rw [if_neg hb, if_neg hb]
              exact sρ1 25 b (by decide)
          rw [if_neg c25]
          by_cases c26 : s = 26
          · rw [if_pos c26]
            subst c26
            unfold kx
            rw [su_n (by decide), st_eq]
            by_cases hb : 25 * x ≤ b ∧ b < 25 * x + 25
            · rw [if_pos hb, if_pos hb]
            · rw [if_neg hb, if_neg hb, g5 nj, e26]
          rw [if_neg c26]
          by_cases c27 : s = 27
          · rw [if_pos c27, gk (by omega) (by omega), r3 s b (by omega), d2]
            subst c27
            unfold adA ad5
            rw [su_n (by decide), su_n (by decide), su_n (by decide), su_n (by decide)]
            by_cases hb : b = x
            · rw [if_pos hb, hb, su_e]
            · rw [if_neg hb]
              unfold su
              rw [if_neg (fun t => hb t.2)]
              show ad3 ρ1 x 27 b = _
              unfold ad3
              rw [su_n (by decide), st_ne _ (by decide), su_n (by decide)]
              exact sρ1 27 b (by decide)
          rw [if_neg c27]
          by_cases c28 : s = 28
          · rw [if_pos c28, gk (by omega) (by omega), r3 s b (by omega), d2]
            subst c28
            have v28 : ∀ b, ad5 ρ1 (qB σ k pX gz q.1).1 x (J k) 28 b = if b = x then 0 else σ 28 b := fun b => by
              unfold ad5
              rw [su_n (by decide)]
              by_cases hb : b = x
              · rw [if_pos hb, hb, su_e]
              · rw [if_neg hb]
                unfold su
                rw [if_neg (fun t => hb t.2)]
                show ad3 ρ1 x 28 b = _
                unfold ad3
                rw [su_n (by decide), st_ne _ (by decide), su_n (by decide)]
                exact sρ1 28 b (by decide)
            unfold adA
            rw [nk, su_n (show (28 : Nat) ≠ 30 by decide), v28, if_neg hxk]
            by_cases hb : b = k
            · rw [hb, su_e, if_neg hxk, if_pos rfl]
            · rw [if_neg hb]
              unfold su
              rw [if_neg (fun t => hb t.2), if_neg (fun t => absurd t.1 (by decide)), v28]
          rw [if_neg c28]
          by_cases c29 : s = 29
          · rw [if_pos c29, gk (by omega) (by omega), r3 s b (by omega), d2]
            subst c29
            unfold adA ad5
            rw [su_n (by decide), su_n (by decide)]
            by_cases hb : b = x
            · rw [if_pos hb, hb, su_e]
            · rw [if_neg hb]
              unfold su
              rw [if_neg (fun t => hb t.2), if_neg (fun t => absurd t.1 (by decide)), if_neg (fun t => absurd t.1 (by decide))]
              show ad3 ρ1 x 29 b = _
              unfold ad3
              rw [su_n (by decide), st_ne _ (by decide), su_n (by decide)]
              exact sρ1 29 b (by decide)
          rw [if_neg c29]
          by_cases c30 : s = 30
          · rw [if_pos c30, gk (by omega) (by omega), r3 s b (by omega), d2]
            subst c30
            have v30 : ∀ b, ad5 ρ1 (qB σ k pX gz q.1).1 x (J k) 30 b = σ 30 b := fun b => by
              unfold ad5 ad3
              rw [su_n (by decide), su_n (by decide), su_n (by decide), st_ne _ (by decide), su_n (by decide), st_ne _ (by decide), su_n (by decide)]
              exact sρ1 30 b (by decide)
            unfold adA
            rw [su_n (by decide), nk, v30]
            by_cases hb : b = x
            · rw [if_pos hb, hb, su_e]
            · rw [if_neg hb]
              unfold su
              rw [if_neg (fun t => hb t.2), v30]
          rw [if_neg c30]
          by_cases c31 : s = 31
          · rw [if_pos c31, gk (by omega) (by omega)]
            subst c31
            have v31 : ∀ b, ρ2 31 b = σ 31 b := fun b => by
              show adA ρ1 (qB σ k pX gz q.1).1 x (J k) 31 b = σ 31 b
              unfold adA ad5 ad3
              rw [su_n (by decide), su_n (by decide), su_n (by decide), su_n (by decide), su_n (by decide), st_ne _ (by decide), su_n (by decide), st_ne _ (by decide), su_n (by decide)]
              exact sρ1 31 b (by decide)
            show su (su (su (su ρ2 31 (4 * x) (J a)) 31 (4 * x + 1) (J w)) 31 (4 * x + 2) (if 0 ≤ y then y else (-2 : Int32))) 31 (4 * x + 3) (if 0 ≤ y then u else (-2 : Int32)) 31 b = _
            by_cases hb : 4 * x ≤ b ∧ b < 4 * x + 4
            · rw [if_pos hb]
              unfold mvs
              have hd : b = 4 * x ∨ b = 4 * x + 1 ∨ b = 4 * x + 2 ∨ b = 4 * x + 3 := by omega
              rcases hd with hd | hd | hd | hd
              · rw [if_pos (show b - 4 * x = 0 by omega)]
                unfold su
                rw [if_neg (show ¬ (31 = 31 ∧ b = 4 * x + 3) by omega), if_neg (show ¬ (31 = 31 ∧ b = 4 * x + 2) by omega), if_neg (show ¬ (31 = 31 ∧ b = 4 * x + 1) by omega), if_pos ⟨rfl, hd⟩]
              · rw [if_neg (show ¬ (b - 4 * x = 0) by omega), if_pos (show b - 4 * x = 1 by omega)]
                unfold su
                rw [if_neg (show ¬ (31 = 31 ∧ b = 4 * x + 3) by omega), if_neg (show ¬ (31 = 31 ∧ b = 4 * x + 2) by omega), if_pos ⟨rfl, hd⟩]
              · rw [if_neg (show ¬ (b - 4 * x = 0) by omega), if_neg (show ¬ (b - 4 * x = 1) by omega), if_pos (show b - 4 * x = 2 by omega)]
                unfold su
                rw [if_neg (show ¬ (31 = 31 ∧ b = 4 * x + 3) by omega), if_pos ⟨rfl, hd⟩]
              · rw [if_neg (show ¬ (b - 4 * x = 0) by omega), if_neg (show ¬ (b - 4 * x = 1) by omega), if_neg (show ¬ (b - 4 * x = 2) by omega)]
                unfold su
                rw [if_pos ⟨rfl, hd⟩]
            · rw [if_neg hb]
              unfold su
              rw [if_neg (show ¬ (31 = 31 ∧ b = 4 * x + 3) by omega), if_neg (show ¬ (31 = 31 ∧ b = 4 * x + 2) by omega), if_neg (show ¬ (31 = 31 ∧ b = 4 * x + 1) by omega), if_neg (show ¬ (31 = 31 ∧ b = 4 * x) by omega)]
              exact v31 b
          rw [if_neg c31]
          by_cases c32 : s = 32
          · rw [if_pos c32]
            subst c32
            unfold kx
            by_cases hb : b = x
            · rw [if_pos hb, hb, su_e]
              exact c5
            · rw [if_neg hb]
              unfold su
              rw [if_neg (fun t => hb t.2), st_ne _ (by decide), g5 nj, r3 32 b (by decide), d2]
              unfold adA ad5 ad3
              rw [su_n (by decide), su_n (by decide), su_n (by decide), su_n (by decide), su_n (by decide), st_ne _ (by decide), su_n (by decide), st_ne _ (by decide), su_n (by decide)]
              exact sρ1 32 b (by decide)
          rw [if_neg c32]
          by_cases c33 : s = 33
          · rw [if_pos c33, gk (by omega) (by omega), r3 s b (by omega), d2]
            subst c33
            unfold adA ad5 ad3
            rw [su_n (by decide), su_n (by decide), su_n (by decide), su_n (by decide), su_n (by decide), st_ne _ (by decide)]
            by_cases hb : b = x
            · rw [if_pos hb, hb, su_e]
              exact hl_hlp (fun s b g1 g2 => sρ1 s b (by simp; omega)) p1
            · rw [if_neg hb]
              unfold su
              rw [if_neg (fun t => hb t.2), st_ne _ (by decide), if_neg (fun t => absurd t.1 (by decide))]
              exact sρ1 33 b (by decide)
          rw [if_neg c33]
          have gen : kx ρ5 (qE σ k pX gz (qB σ k pX gz q.1).1).1 x s b = ρ1 s b := by
            rw [gk c26 c32, r3 s b c31, d2]
            unfold adA ad5 ad3
            rw [su_n c28, su_n c30, su_n c29, su_n c28, su_n c27, st_ne _ c25, su_n c33, st_ne _ c24, su_n c22]
          rw [gen]
          by_cases c40 : s = 40
          · rw [if_pos c40]
            subst c40
            show su ρ 40 0 (σ 40 0 + 1) 40 b = _
            unfold su
            by_cases hb : b = 0
            · rw [if_pos ⟨rfl, hb⟩, if_pos hb]
            · rw [if_neg (fun t => hb t.2), if_neg hb]
              exact s2 40 b (by decide)
          · rw [if_neg c40]
            show su ρ 40 0 (σ 40 0 + 1) s b = _
            rw [su_n c40]
            exact s2 s b nj
    · refine ⟨ez (su ρ1 41 0 (σ 41 0 + 1)) (qB σ k pX gz q.1), tm_3 h1 hk2 (T _ ?_), fun t => absurd hE t, fun _ _ => ?_, fun _ t => absurd (hseen.mp hr) t, fun _ t => absurd (hseen.mp hr) t⟩
      · unfold tmT
        refine Ev.pos e17 ?_
        simp only [bnd]
        rw [e40, ez_su _ _ _ _ (by decide) (by decide)]
        refine Ev.ob er (Ev.neg (by show ¬ (r = 0); rw [hr]; decide) ?_)
        dsimp only
        rw [ez_su _ _ _ _ (by decide) (by decide), ez_ne _ _ _ (by decide) (by decide)]
        rw [show ρ1 41 0 = σ 41 0 from sρ1 41 0 (by decide)]
        exact Ev.ret
      · refine (jq _ _).trans (fun s b hsb => ?_)
        unfold su
        by_cases c1 : s = 41 ∧ b = 0
        · rw [if_pos c1, if_pos c1]
        · rw [if_neg c1, if_neg c1]
          show (if s = 40 ∧ b = 0 then σ 40 0 + 1 else ρ s b) = _
          by_cases c2 : s = 40 ∧ b = 0
          · rw [if_pos c2, if_pos c2]
          · rw [if_neg c2, if_neg c2]
            exact sj s b hsb
  · refine ⟨ez ρ (qB σ k pX gz q.1), tm_3 h1 hk2 (T _ ?_), fun _ => (jq _ _).trans sj, fun t => absurd t hE, fun t => absurd t hE, fun t => absurd t hE⟩
    unfold tmT
    exact Ev.neg (by rw [ez_17]; exact hE) Ev.ret
end TryMove
