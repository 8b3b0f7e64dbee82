/-! what a walk of the reference leaves alone; the relation between calls, and what keeps its parts -/
def wfr (σ σ' : mS) : Prop := ∀ s b, s = 21 ∨ 42 ≤ s → σ' s b = σ s b
theorem wfr.rf (σ : mS) : wfr σ σ := fun _ _ _ => rfl
theorem wfr.tr {σ σ' σ'' : mS} (h : wfr σ σ') (g : wfr σ' σ'') : wfr σ σ'' := fun s b hs => (g s b hs).trans (h s b hs)
theorem wfr_sx {σ σ' : mS} (h : sx jk σ' σ) : wfr σ σ' := fun s b hs => h s b (by
  intro t
  simp only [jk, List.mem_cons, List.not_mem_nil, or_false] at t
  omega)
theorem wfr_su {σ : mS} {k i : Nat} {v : Int32} (h : k ≠ 21 ∧ k < 42) : wfr σ (su σ k i v) := fun s b hs => su_n (by omega)
theorem tm_wfr {σ σ' : mS} {k a w : Nat} {y u : Int32} {pX : Nat → Nat} {gz : Nat → zQ → zQ} {Z0 : Nat → Int32} (h : tmO σ k a w y u pX gz Z0 σ') : wfr σ σ' := by
  obtain ⟨c1, c2, c3, c4⟩ := h
  by_cases hE : (qB σ k pX gz Z0).2 = 0
  · by_cases hs : seenP σ pX (qB σ k pX gz Z0).1
    · exact ((wfr_su (by decide)).tr (wfr_su (by decide))).tr (wfr_sx (c2 hE hs))
    · by_cases h2 : σ 22 0 = 200
      · exact ((wfr_su (by decide)).tr (wfr_su (by decide))).tr (wfr_sx (c3 hE hs h2))
      · refine wfr.tr (fun s b q => ?_) (wfr_sx (c4 hE hs h2))
        unfold tmS
        rw [if_neg (by omega), if_neg (by omega), if_neg (by omega), if_neg (by omega), if_neg (by omega), if_neg (by omega), if_neg (by omega), if_neg (by omega), if_neg (by omega), if_neg (by omega), if_neg (by omega), if_neg (by omega)]
  · exact wfr_sx (c1 hE)
theorem mvF_wfr {k : Nat} {L : List Mv} : ∀ {σ σ' : mS}, mvF k L σ σ' → wfr σ σ' := by
  induction L with
  | nil =>
    intro σ σ' h
    rw [show σ' = σ from h]
    exact wfr.rf σ
  | cons v L ih =>
    intro σ σ' h
    by_cases t : σ 37 0 = 0
    · obtain ⟨σ1, a, b⟩ := h.1 t
      exact (tm_wfr a).tr (ih b)
    · rw [h.2 t]
      exact wfr.rf σ
theorem lkE_wfr (σ : mS) (k : Nat) : wfr σ (lkE σ k) := by
  unfold lkE
  split
  · exact (((wfr_su (by decide)).tr (wfr_su (by decide))).tr (wfr_su (by decide))).tr (wfr_su (by decide))
  · exact wfr.rf σ
theorem wkF_wfr : ∀ (d k : Nat) (σ σ' : mS), wkF d k σ σ' → wfr σ σ' := by
  intro d
  induction d with
  | zero =>
    intro k σ σ' h
    rw [show σ' = σ from h]
    exact wfr.rf σ
  | succ d ih =>
    intro k σ σ' h
    by_cases g : k < N (σ 22 0) ∧ σ 37 0 = 0
    · obtain ⟨σ1, a, b⟩ := h.1 g.1 g.2
      have b0 : wfr σ (lkB σ) := by
        unfold lkB
        exact (wfr_su (by decide)).tr (wfr_su (by decide))
      exact ((b0.tr (mvF_wfr a)).tr (lkE_wfr σ1 k)).tr (ih _ _ _ b)
    · rw [h.2 g]
      exact wfr.rf σ
theorem stO_wfr {σ σ' : mS} (h : stO σ σ') : wfr σ σ' := by
  by_cases hE : (qS σ (σ 15)).2 = 0
  · refine wfr.tr (fun s b q => ?_) (wfr_sx (h.2 hE))
    unfold stS
    rw [if_neg (by omega), if_neg (by omega), if_neg (by omega), if_neg (by omega), if_neg (by omega), if_neg (by omega), if_neg (by omega), if_neg (by omega), if_neg (by omega), if_neg (by omega)]
  · exact wfr_sx (h.1 hE)
theorem walk_wfr {σ σ1 σ2 : mS} (h1 : stO (wS σ) σ1) (h2 : wkF 200 0 σ1 σ2) : σ2 21 0 = 1 ∧ ∀ s b, 42 ≤ s → σ2 s b = σ s b := by
  have w := (stO_wfr h1).tr (wkF_wfr _ _ _ _ h2)
  refine ⟨?_, fun s b hs => ?_⟩
  · rw [w 21 0 (Or.inl rfl)]
    unfold wS
    rw [eg_ne _ _ _ (by omega) (by omega)]
    unfold wB
    rw [su_n (by decide), su_n (by decide), su_n (by decide), su_n (by decide), su_n (by decide), su_n (by decide), su_e]
  · rw [w s b (Or.inr hs)]
    unfold wS
    rw [eg_ne _ _ _ (by omega) (by omega)]
    unfold wB
    rw [su_n (by omega), su_n (by omega), su_n (by omega), su_n (by omega), su_n (by omega), su_n (by omega), su_n (by omega), su_n (by omega)]
/-! the relation between calls; n: calls so far, z: the heap's size -/
def PR (n : Nat) (D : kD) (κ : kS) (σ : mS) (τ : mL) (z : Nat) : Prop := YW D κ σ ∧ FZ D κ z ∧ (WV σ ∧ WT σ ∧ MZ σ) ∧ PW κ σ ∧ HR n κ σ ∧ ZS σ ∧ SH D κ σ τ ∧ N (κ 9 2 0) ≤ n
theorem MZ_yq {σ ρ : mS} (e : yq σ ρ) (h : MZ ρ) : MZ σ := fun m h1 h2 => by
  rw [e 1 0 (by decide) (by decide)] at h1
  rw [e 2 m (by decide) (by decide), e 3 m (by decide) (by decide)]
  exact h m h1 h2
theorem PW_cg {κ κ' : kS} {σ σ' : mS} (h : PW κ σ) (e1 : ∀ c, c ≠ 1 → κ' 1 0 c = κ 1 0 c) (e3 : κ' 3 0 = κ 3 0) (e4 : κ' 4 0 = κ 4 0) (e6 : ∀ b, 2 ≤ b → κ' 6 b = κ 6 b) (e7 : ∀ b, 2 ≤ b → κ' 7 b = κ 7 b) (e19 : κ' 19 = κ 19) (e20 : κ' 20 = κ 20) (e21 : κ' 21 = κ 21) (hs : ∀ s, (21 ≤ s ∧ s ≤ 35) ∨ s = 42 → σ' s = σ s) : PW κ' σ' := by
  have b6 : ∀ j, κ' 6 (2 * j + 2) = κ 6 (2 * j + 2) := fun j => e6 _ (by omega)
  have c6 : ∀ j, κ' 6 (2 * j + 3) = κ 6 (2 * j + 3) := fun j => e6 _ (by omega)
  have b7 : ∀ j, κ' 7 (2 * j + 2) = κ 7 (2 * j + 2) := fun j => e7 _ (by omega)
  have c7 : ∀ j, κ' 7 (2 * j + 3) = κ 7 (2 * j + 3) := fun j => e7 _ (by omega)
  unfold PW SRl TIj LE at h ⊢
  simp only [e1 3 (by decide), e1 4 (by decide), e1 5 (by decide), e1 6 (by decide), e1 7 (by decide), e1 8 (by decide), e3, e4, b6, c6, b7, c7, e19, e20, e21, hs 21 (by decide), hs 22 (by decide), hs 23 (by decide), hs 24 (by decide), hs 25 (by decide), hs 26 (by decide), hs 27 (by decide), hs 28 (by decide), hs 29 (by decide), hs 30 (by decide), hs 31 (by decide), hs 32 (by decide), hs 33 (by decide), hs 34 (by decide), hs 35 (by decide), hs 42 (by decide)]
  exact h
theorem HR_cg {n : Nat} {κ κ' : kS} {σ σ' : mS} (h : HR n κ σ) (e6 : κ' 6 1 = κ 6 1) (e7 : κ' 7 1 = κ 7 1) (e8 : κ' 8 0 = κ 8 0) (s43 : σ' 43 = σ 43) (s44 : σ' 44 = σ 44) : HR n κ' σ' := by
  obtain ⟨⟨h1, h2, h3⟩, h8⟩ := h
  have k : kq κ' 1 = kq κ 1 := by unfold kq; rw [e6, e7]
  have e2 : (hq σ').2 = (hq σ).2 := by show σ' 44 0 = σ 44 0; rw [s44]
  have e : ∀ i j, i < 4 → j < 4 → (hq σ').1 (5 * i + j) = (hq σ).1 (5 * i + j) := fun i j hi hj => by
    show (if 5 * i + j < 25 then σ' 43 (5 * i + j) else σ' 15 (5 * i + j)) = (if 5 * i + j < 25 then σ 43 (5 * i + j) else σ 15 (5 * i + j))
    rw [if_pos (by omega), if_pos (by omega), s43]
  refine ⟨⟨by rw [e2]; exact h1, by rw [k, e2]; exact h2, fun t => ?_⟩, by rw [e8]; exact h8⟩
  rw [e2] at t
  obtain ⟨c, g⟩ := h3 t
  rw [k]
  exact ⟨cagr_tr c (fun i j hi hj => (e i j hi hj).symm), hN_cg e g⟩
theorem ZS_cg {σ σ' : mS} (h : ZS σ) (s22 : σ' 22 = σ 22) (s25 : σ' 25 = σ 25) : ZS σ' := by
  unfold ZS at h ⊢
  rw [s22, s25]
  exact h
theorem SH_cg {D D' : kD} {κ κ' : kS} {σ σ' : mS} {τ : mL} (h : SH D κ σ τ) (hD : D'.2.2.2 = D.2.2.2) (e9 : κ' 9 = κ 9) (e22 : κ' 22 = κ 22) (e23 : κ' 23 = κ 23) (hs : ∀ s, 46 ≤ s → s ≤ 49 → σ' s = σ s) : SH D' κ' σ' τ := by
  unfold SH SHd shW shP shS shL at h ⊢
  rw [hD, e9, e22, e23, hs 46 (by decide) (by decide), hs 47 (by decide) (by decide), hs 48 (by decide) (by decide), hs 49 (by decide) (by decide)]
  exact h
theorem FZ_cg {D : kD} {κ κ' : kS} {z : Nat} (h : FZ D κ z) (e1 : κ' 1 0 1 = κ 1 0 1) (e3 : κ' 3 0 0 = κ 3 0 0) (e9 : κ' 9 = κ 9) (e10 : κ' 10 = κ 10) : FZ D κ' z := by
  unfold FZ lq at h ⊢
  rw [e1, e3, e9, e10]
  exact h
/-- the two sides of a call, as the law sees them -/
def StA (n : Nat) (D : kD) (κ : kS) (σ : mS) (τ : mL) (z : Nat) (f : Nat → Option (Int32 × xH)) (g : Nat → Option (Int32 × mS × mL)) : Prop := ∃ r D' κ' σ' τ', Ev f (r, rn D' κ') ∧ Ev g (r, σ', τ') ∧ Dk D D' ∧ PR (n + 1) D' κ' σ' τ' z ∧ N (κ' 3 0 0) = N (κ 3 0 0)
def StB (n : Nat) (D : kD) (κ : kS) (σ : mS) (τ : mL) (z : Nat) (f : Nat → Option (Int32 × xH × Nat × Nat)) (g : Nat → Option (Int32 × mS × mL)) : Prop := ∃ r D' κ' σ' τ' c s, Ev f (r, rn D' κ', c, s) ∧ Ev g (r, σ', τ') ∧ Dk D D' ∧ PR (n + 1) D' κ' σ' τ' (z + c) ∧ N (κ 3 0 0) ≤ N (κ' 3 0 0) ∧ c ≤ 7 * (N (κ' 3 0 0) - N (κ 3 0 0)) + 3 ∧ s ≤ 66 * (N (κ' 3 0 0) - N (κ 3 0 0)) + 61
def StT (T : Type) (n : Nat) (D : kD) (κ : kS) (σ : mS) (τ : mL) (z : Nat) (f : Nat → Option (T × Nat × xH)) (g : Nat → Option (T × mS × mL)) : Prop := ∃ v cd b, Ev f (v, cd, rn D κ) ∧ Ev g (b, su σ 0 0 (J cd), τ) ∧ cd ≤ 2 ∧ (cd = 0 → v = b) ∧ PR (n + 1) D κ (su σ 0 0 (J cd)) τ z
section PR1
variable {n : Nat} {D : kD} {κ : kS} {σ : mS} {τ : mL} {z : Nat}
theorem PR_su (P : PR n D κ σ τ z) (v : Int32) : PR (n + 1) D κ (su σ 0 0 v) τ z := by
  obtain ⟨yw, fz, ⟨wv, wt, mz⟩, pw, hr, zs, sh, nn⟩ := P
  have hs : ∀ s, s ≠ 0 → su σ 0 0 v s = σ s := fun s h => su_ne σ 0 v h
  have y : yq (su σ 0 0 v) σ := fun a b h1 _ => su_n (by omega)
  exact ⟨YW_sst yw y, fz, ⟨wv.eq y, WT_cg y wt, MZ_yq y mz⟩, PW_cg pw (fun _ _ => rfl) rfl rfl (fun _ _ => rfl) (fun _ _ => rfl) rfl rfl rfl (fun s h => hs s (by omega)), HR_mono (Nat.le_succ n) (HR_cg hr rfl rfl rfl (hs 43 (by decide)) (hs 44 (by decide))), ZS_cg zs (hs 22 (by decide)) (hs 25 (by decide)), SH_cg sh rfl rfl rfl rfl (fun s h _ => hs s (by omega)), by omega⟩
theorem Dk.rf (D : kD) : Dk D D := ⟨fun _ _ i => ⟨rfl, i⟩, rfl⟩
theorem st_RO (P : PR n D κ σ τ z) {f : Nat → Option (Int32 × xH)} {g : Nat → Option (Int32 × mS × mL)} (h : RO D κ σ τ f g) : StA n D κ σ τ z f g := by
  obtain ⟨r, ef, eg⟩ := h
  exact ⟨r, D, κ, _, τ, ef, eg, Dk.rf D, PR_su P 0, rfl⟩
theorem st_RT {T : Type} (P : PR n D κ σ τ z) {f : Nat → Option (T × Nat × xH)} {g : Nat → Option (T × mS × mL)} (h : RTh T D κ σ τ f g) : StT T n D κ σ τ z f g := by
  obtain ⟨v, cd, b, ef, eg, h1, h2⟩ := h
  exact ⟨v, cd, b, ef, eg, h1, h2, PR_su P _⟩
theorem PR_by (P : PR n D κ σ τ z) {D' : kD} {κ' : kS} {σ' : mS} {z' : Nat} (hD : D'.2.2.2 = D.2.2.2) (yw : YW D' κ' σ') (fz : FZ D' κ' z') (wv : WV σ') (wt : WT σ') (k : kfy κ κ') (s : sfy σ σ') (mz : MZ σ → MZ σ') : PR (n + 1) D' κ' σ' τ z' ∧ N (κ' 3 0 0) = N (κ 3 0 0) := by
  obtain ⟨-, -, ⟨-, -, mz0⟩, pw, hr, zs, sh, nn⟩ := P
  have e : ∀ a, a ≠ 1 → (a < 10 ∨ 18 < a) → κ' a = κ a := fun a h1 h2 => funext fun b => k.1 a b h1 h2
  have hs : ∀ a, 14 < a → σ' a = σ a := fun a h => funext fun b => s a b h
  have e9 : κ' 9 = κ 9 := e 9 (by decide) (by decide)
  have e3 : κ' 3 = κ 3 := e 3 (by decide) (by decide)
  exact ⟨⟨yw, fz, ⟨wv, wt, mz mz0⟩, PW_cg pw k.2 (by rw [e3]) (by rw [e 4 (by decide) (by decide)]) (fun b _ => by rw [e 6 (by decide) (by decide)]) (fun b _ => by rw [e 7 (by decide) (by decide)]) (e 19 (by decide) (by decide)) (e 20 (by decide) (by decide)) (e 21 (by decide) (by decide)) (fun s h => hs s (by omega)), HR_mono (Nat.le_succ n) (HR_cg hr (by rw [e 6 (by decide) (by decide)]) (by rw [e 7 (by decide) (by decide)]) (by rw [e 8 (by decide) (by decide)]) (hs 43 (by decide)) (hs 44 (by decide))), ZS_cg zs (hs 22 (by decide)) (hs 25 (by decide)), SH_cg sh hD e9 (e 22 (by decide) (by decide)) (e 23 (by decide) (by decide)) (fun s h _ => hs s (by omega)), by rw [e9]; omega⟩, by rw [e3]⟩
theorem st_BN (P : PR n D κ σ τ z) {f : Nat → Option (Int32 × xH)} {g : Nat → Option (Int32 × mS × mL)} (h : BN D κ σ τ z f g) : StA n D κ σ τ z f g := by
  obtain ⟨r, κ', σ', ef, eg, yw, fz, wv, wt, k, s, mz⟩ := h
  have r2 := PR_by P (D' := D) rfl yw fz wv wt k s mz
  exact ⟨r, D, κ', σ', τ, ef, eg, Dk.rf D, r2.1, r2.2⟩
theorem st_BO (P : PR n D κ σ τ z) {f : Nat → Option (Int32 × xH × Nat × Nat)} {g : Nat → Option (Int32 × mS × mL)} (h : BO D κ σ τ z f g) : StB n D κ σ τ z f g := by
  obtain ⟨r, D', κ', σ', c, s, ef, eg, dx, yw, fz, wv, wt, k, sf, hc, hs, mz⟩ := h
  have r2 := PR_by P dx.2.2 yw fz wv wt k sf mz
  exact ⟨r, D', κ', σ', τ, c, s, ef, eg, dx.dk, r2.1, by omega, by omega, by omega⟩
theorem st_HC (P : PR n D κ σ τ z) {f : Nat → Option (Int32 × xH)} {g : Nat → Option (Int32 × mS × mL)} (h : HC D κ σ τ n f g) : StA n D κ σ τ z f g := by
  obtain ⟨r, κ', σ', ef, eg, hr, k, s⟩ := h
  obtain ⟨yw, fz, ⟨wv, wt, mz⟩, pw, -, zs, sh, nn⟩ := P
  have e : ∀ a, a ≠ 6 → a ≠ 7 → a ≠ 8 → κ' a = κ a := fun a h6 h7 h8 => funext fun b => k a b (fun t => h6 t.1) (fun t => h7 t.1) h8
  have hs : ∀ a, a ≠ 0 → (a < 15 ∨ (19 < a ∧ a ≠ 43 ∧ a ≠ 44)) → σ' a = σ a := fun a h0 h1 => funext fun b => s a b (by
    intro t
    simp only [hsl, List.mem_cons, List.not_mem_nil, or_false] at t
    omega)
  have y : yq σ' σ := fun a b h1 h2 => by rw [hs a (by omega) (by omega)]
  have e9 : κ' 9 = κ 9 := e 9 (by decide) (by decide) (by decide)
  have e3 : κ' 3 = κ 3 := e 3 (by decide) (by decide) (by decide)
  have e1 : κ' 1 = κ 1 := e 1 (by decide) (by decide) (by decide)
  have e10 : κ' 10 = κ 10 := e 10 (by decide) (by decide) (by decide)
  have e22 : κ' 22 = κ 22 := e 22 (by decide) (by decide) (by decide)
  have yw' : YW D κ' σ := yw.cg ⟨by rw [e1], e9, fun m => by rw [e10], fun d => by rw [e22]⟩ ⟨by rw [e1], e10, e 13 (by decide) (by decide) (by decide), e 14 (by decide) (by decide) (by decide), e 15 (by decide) (by decide) (by decide), e 16 (by decide) (by decide) (by decide), e 17 (by decide) (by decide) (by decide), e 18 (by decide) (by decide) (by decide)⟩ (by rw [e3])
  refine ⟨r, D, κ', σ', τ, ef, eg, Dk.rf D, ⟨YW_sst yw' y, FZ_cg fz (by rw [e1]) (by rw [e3]) e9 e10, ⟨wv.eq y, WT_cg y wt, MZ_yq y mz⟩, PW_cg pw (fun c _ => by rw [e1]) (by rw [e3]) (by rw [e 4 (by decide) (by decide) (by decide)]) (fun b hb => k 6 b (by omega) (by omega) (by decide)) (fun b hb => k 7 b (by omega) (by omega) (by decide)) (e 19 (by decide) (by decide) (by decide)) (e 20 (by decide) (by decide) (by decide)) (e 21 (by decide) (by decide) (by decide)) (fun s h => hs s (by omega) (by omega)), hr, ZS_cg zs (hs 22 (by decide) (by decide)) (hs 25 (by decide) (by decide)), SH_cg sh rfl e9 e22 (e 23 (by decide) (by decide) (by decide)) (fun s h1 h2 => hs s (by omega) (by omega)), by rw [e9]; omega⟩, by rw [e3]⟩
theorem PR_sc (P : PR n D κ σ τ z) {D' : kD} {κ' : kS} {σ' : mS} {τ' : mL} {z' : Nat} (yw : YW D' κ' σ') (fz : FZ D' κ' z') (sh : SH D' κ' σ' τ') (k : kfs κ κ') (s : sfs σ σ') (h9 : N (κ' 9 2 0) ≤ N (κ 9 2 0) + 1) : PR (n + 1) D' κ' σ' τ' z' ∧ N (κ' 3 0 0) = N (κ 3 0 0) := by
  obtain ⟨-, -, ⟨wv, wt, mz⟩, pw, hr, zs, -, nn⟩ := P
  have e : ∀ a, a ≠ 9 → a < 22 → κ' a = κ a := fun a h1 h2 => funext fun b => k a b h1 h2
  have hs : ∀ a, a ≠ 0 → a < 46 → σ' a = σ a := fun a h0 h1 => funext fun b => s a b h0 h1
  have y : yq σ' σ := fun a b h1 h2 => by rw [hs a (by omega) (by omega)]
  exact ⟨⟨yw, fz, ⟨wv.eq y, WT_cg y wt, MZ_yq y mz⟩, PW_cg pw (fun c _ => by rw [e 1 (by decide) (by decide)]) (by rw [e 3 (by decide) (by decide)]) (by rw [e 4 (by decide) (by decide)]) (fun b _ => by rw [e 6 (by decide) (by decide)]) (fun b _ => by rw [e 7 (by decide) (by decide)]) (e 19 (by decide) (by decide)) (e 20 (by decide) (by decide)) (e 21 (by decide) (by decide)) (fun s h => hs s (by omega) (by omega)), HR_mono (Nat.le_succ n) (HR_cg hr (by rw [e 6 (by decide) (by decide)]) (by rw [e 7 (by decide) (by decide)]) (by rw [e 8 (by decide) (by decide)]) (hs 43 (by decide) (by decide)) (hs 44 (by decide) (by decide))), ZS_cg zs (hs 22 (by decide) (by decide)) (hs 25 (by decide) (by decide)), sh, by omega⟩, by rw [e 3 (by decide) (by decide)]⟩
theorem st_SCo (P : PR n D κ σ τ z) {f : Nat → Option (Int32 × xH × Nat × Nat)} {g : Nat → Option (Int32 × mS × mL)} (h : SCo D κ σ τ z f g) : StB n D κ σ τ z f g := by
  obtain ⟨r, D', κ', σ', τ', c, s, ef, eg, dk, yw, fz, sh, k, sf, hc, hs, h9⟩ := h
  have r2 := PR_sc P yw fz sh k sf h9
  exact ⟨r, D', κ', σ', τ', c, s, ef, eg, dk, r2.1, by omega, by omega, by omega⟩
theorem st_SCn (P : PR n D κ σ τ z) {f : Nat → Option (Int32 × xH)} {g : Nat → Option (Int32 × mS × mL)} (h : SCn D κ σ τ z f g) : StA n D κ σ τ z f g := by
  obtain ⟨r, D', κ', σ', τ', ef, eg, dk, yw, fz, sh, k, sf, h9⟩ := h
  have r2 := PR_sc P yw fz sh k sf (by rw [h9]; omega)
  exact ⟨r, D', κ', σ', τ', ef, eg, dk, r2.1, r2.2⟩
theorem st_walk (P : PR n D κ σ τ z) : StB n D κ σ τ z (fun m => Ti_walk_f m 0 (D.1 0 0) 0 (rn D κ) z) (fun m => Mo_walk_f m 0 0 0 σ τ) := by
  obtain ⟨yw, fz, ⟨wv, wt, mz⟩, pw, hr, zs, sh, nn⟩ := id P
  by_cases hc : canW σ
  · obtain ⟨σ1, σ2, o1, o2, -, y2, e2⟩ := walk_yes (τ := τ) yw.2.2 hc (x1 := 0) (x2 := 0)
    obtain ⟨D', κ', c, s, e1, ⟨dx, yw', fz', cs, hle, cr, kr⟩, le, ai⟩ := walk_y yw fz wv wt hc pw.2.2.1 pw.2.2.2.2.1 o1 o2 (x1 := 0)
    have zs2 := (walk_AI2 yw.2.2 wv wt hc o1 o2).zs
    obtain ⟨w21, w42⟩ := walk_wfr o1 o2
    have k3 : kB κ 3 = κ 3 := by
      funext b
      unfold kB
      rw [ku_k (by decide), ku_k (by decide), ku_k (by decide), ku_k (by decide), ku_k (by decide)]
    have kk : ∀ a b, a ≠ 1 → kB κ a b = κ a b := fun a b ha => by
      unfold kB
      rw [ku_k ha, ku_k ha, ku_k ha, ku_k ha, ku_k ha]
    have hst : ∀ s, s ≠ 42 → st σ2 42 (told σ2) s = σ2 s := fun s hs => by
      funext b
      exact if_neg hs
    have y3 : yq (st σ2 42 (told σ2)) σ := fun a b h1 h2 => by rw [hst a (by omega)]; exact y2 a b h1 h2
    have y4 : yq (st σ2 42 (told σ2)) σ2 := fun a b h1 h2 => by rw [hst a (by omega)]
    have hs46 : ∀ s, 42 < s → st σ2 42 (told σ2) s = σ s := fun s hs => by
      rw [hst s (by omega)]
      funext b
      exact w42 s b (by omega)
    have e9 : κ' 9 = κ 9 := by
      funext b
      rw [kr.2.2.1 9 b (by omega), kk 9 b (by decide)]
    have e22 : κ' 22 = κ 22 := by
      funext b
      rw [kr.2.2.1 22 b (by omega), kk 22 b (by decide)]
    have e23 : κ' 23 = κ 23 := by
      funext b
      rw [kr.2.2.1 23 b (by omega), kk 23 b (by decide)]
    have e8 : κ' 8 = κ 8 := by
      funext b
      rw [kr.2.2.1 8 b (by omega), kk 8 b (by decide)]
    rw [k3] at cs hle
    obtain ⟨c1, ⟨c2, c2'⟩, c3, c4, c5, c6, -, c8⟩ := cr
    have sm22 := ai.1.2.1
    have m0 : 0 < N (σ2 1 0) := by rw [y2 1 0 (by decide) (by decide)]; exact hc.1
    have pw0 : PW κ' (st σ2 42 (told σ2)) := by
      have base : κ' 1 0 3 = σ2 22 0 ∧ sml (σ2 22 0) 200 ∧ sml (κ' 3 0 0) 200 ∧ N (σ2 22 0) ≤ N (κ' 3 0 0) ∧ (∀ j, j < N (κ' 3 0 0) → κ' 19 j 0 = J j) ∧ (∀ j, j < N (σ2 22 0) → SRl κ' σ2 j ∧ TIj σ2 j ∧ ∃ p, p ≤ 5 ∧ σ2 24 (3 * j) = J p) ∧ LE κ' σ2 ∧ (κ' 1 0 7 = σ2 21 0 ∧ (σ2 21 0 = 0 ∨ σ2 21 0 = 1)) ∧ ∀ b, b < 3 → told σ2 b = if κ' 1 0 8 = 0 then (-2 : Int32) else κ' 4 0 (b + 1) := by
        refine ⟨c1, sm22, c3, c4, c5, fun j hj => ⟨c6 j hj, c8 j hj, ?_⟩, le, ⟨?_, Or.inr w21⟩, fun b hb => ?_⟩
        · have s5 := ai.1.2.2 j 0 hj m0
          exact ⟨N (σ2 24 (3 * j + 0)), s5.2, s5.1⟩
        · rw [kr.2.2.2, w21]
          rfl
        · unfold told
          rw [if_pos hb, c2]
          by_cases g : σ2 20 0 = 0
          · rw [if_pos g, if_pos g]
          · rw [if_neg g, if_neg g, c2' g (b + 1) (by omega)]
      have t42 : ∀ b, st σ2 42 (told σ2) 42 b = told σ2 b := fun b => if_pos rfl
      unfold PW SRl TIj LE at *
      simp only [hst 21 (by decide), hst 22 (by decide), hst 23 (by decide), hst 24 (by decide), hst 25 (by decide), hst 26 (by decide), hst 27 (by decide), hst 28 (by decide), hst 29 (by decide), hst 30 (by decide), hst 31 (by decide), hst 32 (by decide), hst 33 (by decide), hst 34 (by decide), hst 35 (by decide), t42]
      exact base
    refine ⟨wAns σ2, D', κ', st σ2 42 (told σ2), τ, c, s, e1, e2, dx.dk, ⟨YW_sst yw' y4, fz', ⟨wv.eq y3, WT_cg y3 wt, MZ_yq y3 mz⟩, pw0, HR_mono (Nat.le_succ n) (HR_cg hr (by rw [kr.1, kk 6 1 (by decide)]) (by rw [kr.2.1, kk 7 1 (by decide)]) (by rw [e8]) (hs46 43 (by decide)) (hs46 44 (by decide))), ZS_cg zs2 (hst 22 (by decide)) (hst 25 (by decide)), SH_cg sh dx.2.2 e9 e22 e23 (fun s h1 _ => hs46 s (by omega)), by rw [e9]; omega⟩, hle, by omega, by omega⟩
  · exact ⟨-1, D, κ, _, τ, 0, 0, walk_n yw hc, walk_no yw.2.2 hc, Dk.rf D, PR_su P 0, by omega, by omega, by omega⟩
end PR1
