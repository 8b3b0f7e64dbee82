/-! the class's LET GO, isLimited, isCovered, findGreatest -/
theorem xup_xup (h : xH) (a : Nat) (e e' : xE) : xup (xup h a e) a e' = xup h a e' := by
  funext q
  by_cases hq : q = a
  · rw [hq, xup_eq, xup_eq]
  · rw [xup_ne hq, xup_ne hq, xup_ne hq]
theorem xup_id {h : xH} {a : Nat} {e : xE} (he : h a = some e) : xup h a e = h := by
  funext q
  by_cases hq : q = a
  · rw [hq, xup_eq, he]
  · rw [xup_ne hq]
theorem fill_x {h : xH} {b n : Nat} {f : Nat → Int32} (hn : n < 1000) {x x2 x3 : Int32} : Ev (fun k => J7_fill_53178_f k 0 (some b) x x2 x3 (xup h b (inA n f))) (0, xup h b (inA n (fun i => if i < n then x else f i))) := by
  have hal : ∀ f : Nat → Int32, al (xup h b (inA n f)) b 0 = some (J n) := fun f => by
    unfold al
    rw [xup_eq]
    unfold inA
    dsimp only
    rw [if_pos rfl]
    rfl
  have hpa : ∀ (f : Nat → Int32) (i : Nat), i < n → pa (xup h b (inA n f)) b 0 (J i) x = some (xup h b (inA n (fu f i x))) := fun f i hi => by
    unfold pa
    rw [xup_eq]
    unfold inA
    dsimp only
    rw [if_pos rfl, if_pos (xin_J hi (by omega)), J_nat (by omega), xup_xup]
    rfl
  refine Ev.succ (fun k => J7_fill_53178_e0 k _ _ _ _ _) ?_
  unfold J7_fill_53178_t0
  simp only [hal, obd]
  have key := Ev.up (f := fun k i f => J7_fill_53178_f k 5 (some b) x (J i) (J n) (xup h b (inA n f))) (R := (0, xup h b (inA n (fun i => if i < n then x else f i)))) n (fun i f => fu f i x) (fun _ _ => True) (fun _ _ _ _ => trivial) (fun i f hi _ e2 => by
    refine Ev.succ (fun k => J7_fill_53178_e5 k _ _ _ _ _) ?_
    unfold J7_fill_53178_t5
    simp only [obd, hpa f i hi]
    refine Ev.neg (by rw [J_le (by omega) (by omega)]; omega) ?_
    rw [show J i + 1 = J (i + 1) from J_add i 1]
    exact e2) n 0 f (by omega) trivial
  refine key ?_
  rw [it_fu0 (fun _ => x)]
  refine Ev.succ (fun k => J7_fill_53178_e5 k _ _ _ _ _) ?_
  unfold J7_fill_53178_t5
  exact Ev.pos (by rw [J_le (by omega) (by omega)]; omega) Ev.ret
section CG
variable {D : kD} {κ : kS} {σ : mS} {ix : Nat}
theorem zo_loosen (hD : WD D) (h6 : kI D 6 ix) (h7 : kI D 7 ix) (hn : zn ix = 4) {kg : Nat} (hg : kI D kg 0) (hc : kcl D κ kg 0 = some (inA 4 (κ kg 0))) (k6 : kg ≠ 6) (k7 : kg ≠ 7) (he : κ 6 ix 2 = 0) {x2 x3 x4 : Int32} : Ev (fun k => Zo_loosen_f k 0 (D.1 6 ix) (some (D.1 kg 0)) x2 x3 x4 (rn D κ)) ((lnz 4 (κ kg 0) (κ 7 ix, 0)).2, rn D (kz κ ix ((lnz 4 (κ kg 0) (κ 7 ix, 0)).1, 0))) := by
  have e := loosen_c (h := rn D κ) (f := κ 7 ix) (n := zn ix) (g := κ kg 0) (kI_ne h6 h7 (by omega)) (zn_le ix).1 (by rw [rn_at hg, hc, hn]; rfl) (kI_ne hg h6 (by omega)) (kI_ne hg h7 (by omega)) (x2 := x2) (x3 := x3) (x4 := x4)
  rw [rn_hz hD h6 h7 ((lnz (zn ix) (κ kg 0) (κ 7 ix, 0)).1, 0), ← he, ← rn_is h6 h7, he, hn] at e
  exact e
theorem letGreatGo_y (h : LV D κ) (he : κ 6 0 2 = 0) : Ev (fun n => Ya_letGreatGo_f n (D.1 1 0) (rn D κ)) (0, rn D (kz κ 0 (if κ 1 0 8 = 0 then kq κ 0 else clg (κ 4 0) (κ 7 0)))) := by
  unfold Ya_letGreatGo_f
  simp only [rd1 h.k1, obd]
  by_cases g : κ 1 0 8 = 0
  · rw [if_pos g, kz_id]
    exact Ev.pos g Ev.ret
  · rw [if_neg g]
    refine Ev.neg g ?_
    simp only [rd6 h.z0.1, if_true]
    have lo := zo_loosen h.1 h.z0.1 h.z0.2 (by decide) (h.2.1 4 (by decide) (by decide) (by decide)) (κ := κ) rfl (by decide) (by decide) he (x2 := 0) (x3 := 0) (x4 := 0)
    unfold clg
    generalize lnz 4 (κ 4 0) (κ 7 0, 0) = L at lo ⊢
    refine Ev.ob lo ?_
    dsimp only
    by_cases g2 : L.2 = 0
    · rw [if_pos g2]
      exact Ev.pos g2 Ev.ret
    · rw [if_neg g2]
      refine Ev.neg g2 ?_
      simp only [rd1 h.k1, rd6 h.z0.1, if_true]
      have c := zo_close (κ := kz κ 0 (L.1, 0)) h.1 h.z0.1 h.z0.2 (x1 := 0) (x2 := 0) (x3 := 0)
      rw [kz_kz, kz_q] at c
      exact Ev.ob c Ev.ret
/-- a LIMIT at the places p, from machine a on -/
def cil (σ : mS) (p : Nat → Nat) : Nat → Nat → Int32
  | 0, _ => 0
  | d + 1, a => if σ 4 (6 * a + p a) ≤ 0 then cil σ p d (a + 1) else 1
theorem cil_is (hW : WY σ) (p : Nat → Nat) : cil σ p (N (σ 1 0)) 0 = hlp σ p := by
  have hb := hW.1.2
  unfold hlp
  generalize N (σ 1 0) = c at hb ⊢
  have : c = 0 ∨ c = 1 ∨ c = 2 ∨ c = 3 := by omega
  rcases this with t | t | t | t
  · subst t; rfl
  · subst t
    simp only [cil, it]
    by_cases h0 : σ 4 (6 * 0 + p 0) ≤ 0
    · simp [h0]
    · simp [h0]
  · subst t
    simp only [cil, it]
    by_cases h0 : σ 4 (6 * 0 + p 0) ≤ 0 <;> by_cases h1 : σ 4 (6 * (0 + 1) + p (0 + 1)) ≤ 0 <;> simp_all
  · subst t
    simp only [cil, it]
    by_cases h0 : σ 4 (6 * 0 + p 0) ≤ 0 <;> by_cases h1 : σ 4 (6 * (0 + 1) + p (0 + 1)) ≤ 0 <;> by_cases h2 : σ 4 (6 * (0 + 1 + 1) + p (0 + 1 + 1)) ≤ 0 <;> simp_all
theorem isLimited_y (h : YW D κ σ) {p : Nat → Nat} (hp : ∀ a, a < N (σ 1 0) → κ 5 0 a = J (p a) ∧ p a < N (σ 2 a)) {x1 : Int32} : Ev (fun n => Ya_isLimited_f n 0 (D.1 1 0) x1 (rn D κ)) (hlp σ p, rn D κ) := by
  have hb := h.2.2.1
  have k1 := h.1.k1
  have k5 := h.1.2.1 5 (by decide) (by decide) (by decide)
  have main : ∀ d a, a + d = N (σ 1 0) → Ev (fun n => Ya_isLimited_f n 2 (D.1 1 0) (J a) (rn D κ)) (cil σ p d a, rn D κ) := by
    intro d
    induction d with
    | zero =>
      intro a ha
      refine Ev.succ (fun n => Ya_isLimited_e2 n _ _ _) ?_
      unfold Ya_isLimited_t2
      simp only [obd, rd1 k1, h.2.1.1]
      refine Ev.pos ?_ Ev.ret
      rw [hb.1, J_le (by have := hb.2; omega) (by have := hb.2; omega)]
      omega
    | succ d ih =>
      intro a ha
      have hpa := hp a (by omega)
      have k13 := h.k13 (show a < N (σ 1 0) by omega) hpa.2
      have y := (h.2.1.2 a (by omega)).2.1 (p a) hpa.2
      refine Ev.succ (fun n => Ya_isLimited_e2 n _ _ _) ?_
      unfold Ya_isLimited_t2
      simp only [obd, bnd, oel, rd1 k1, h.2.1.1, kra5 k5 (show a < 3 by have := hb.2; omega), hpa.1, if_true, h.pl (show a < N (σ 1 0) by omega) hpa.2, rd13 k13.1, y.1]
      refine Ev.neg (sml_nle hb (by omega) (by omega)) ?_
      show Ev _ (if σ 4 (6 * a + p a) ≤ 0 then cil σ p d (a + 1) else 1, rn D κ)
      by_cases g : σ 4 (6 * a + p a) ≤ 0
      · rw [if_pos g]
        refine Ev.pos g ?_
        rw [show J a + 1 = J (a + 1) from J_add a 1]
        exact ih (a + 1) (by omega)
      · rw [if_neg g]
        exact Ev.neg g Ev.ret
  refine Ev.succ (fun n => Ya_isLimited_e0 n _ _ _) ?_
  unfold Ya_isLimited_t0
  rw [← cil_is h.2.2]
  exact main (N (σ 1 0)) 0 (by omega)
/-- the places of state k are those of arrival, from i on -/
def csa (κ : kS) (k : Nat) : Nat → Nat → Int32
  | 0, _ => 1
  | d + 1, i => if κ 20 k i = κ 5 0 i then csa κ k d (i + 1) else 0
theorem csa_is (κ : kS) (k : Nat) : ∀ d i, (csa κ k d i = 1 ∧ ∀ j, i ≤ j → j < i + d → κ 20 k j = κ 5 0 j) ∨ (csa κ k d i = 0 ∧ ¬ ∀ j, i ≤ j → j < i + d → κ 20 k j = κ 5 0 j) := by
  intro d
  induction d with
  | zero => intro i; exact Or.inl ⟨rfl, fun j _ _ => by omega⟩
  | succ d ih =>
    intro i
    show ((if κ 20 k i = κ 5 0 i then csa κ k d (i + 1) else 0) = 1 ∧ _) ∨ ((if κ 20 k i = κ 5 0 i then csa κ k d (i + 1) else 0) = 0 ∧ _)
    by_cases g : κ 20 k i = κ 5 0 i
    · rw [if_pos g]
      rcases ih (i + 1) with a | a
      · refine Or.inl ⟨a.1, fun j h1 h2 => ?_⟩
        by_cases e : j = i
        · rw [e]; exact g
        · exact a.2 j (by omega) (by omega)
      · exact Or.inr ⟨a.1, fun t => a.2 (fun j h1 h2 => t j (by omega) (by omega))⟩
    · rw [if_neg g]
      exact Or.inr ⟨rfl, fun t => g (t i (by omega) (by omega))⟩
theorem standsAt_y (h : LV D κ) {k : Nat} (hk : k < N (κ 3 0 0)) {x2 : Int32} : Ev (fun n => St_standsAt_f n 0 (D.1 19 k) (some (D.1 5 0)) x2 (rn D κ)) (csa κ k 3 0, rn D κ) := by
  have k5 := h.2.1 5 (by decide) (by decide) (by decide)
  have k19 := h.2.2.2.2.1 k hk
  have main : ∀ d i, i + d = 3 → Ev (fun n => St_standsAt_f n 2 (D.1 19 k) (some (D.1 5 0)) (J i) (rn D κ)) (csa κ k d i, rn D κ) := by
    intro d
    induction d with
    | zero =>
      intro i hi
      refine Ev.succ (fun n => St_standsAt_e2 n _ _ _ _) ?_
      unfold St_standsAt_t2
      simp only [obd, rd19 k19.1, krl20 k19.2.1]
      exact Ev.pos (by rw [J_le (by omega) (by omega)]; omega) Ev.ret
    | succ d ih =>
      intro i hi
      refine Ev.succ (fun n => St_standsAt_e2 n _ _ _ _) ?_
      unfold St_standsAt_t2
      simp only [obd, rd19 k19.1, krl20 k19.2.1, krl5 k5, kra20 k19.2.1 (show i < 3 by omega), kra5 k5 (show i < 3 by omega)]
      refine Ev.neg (by rw [J_le (by omega) (by omega)]; omega) (Ev.neg (by rw [J_le (by omega) (by omega)]; omega) ?_)
      show Ev _ (if κ 20 k i = κ 5 0 i then csa κ k d (i + 1) else 0, rn D κ)
      by_cases g : κ 20 k i = κ 5 0 i
      · rw [if_pos g]
        refine Ev.pos g ?_
        rw [show J i + 1 = J (i + 1) from J_add i 1]
        exact ih (i + 1) (by omega)
      · rw [if_neg g]
        exact Ev.neg g Ev.ret
  refine Ev.succ (fun n => St_standsAt_e0 n _ _ _ _) ?_
  unfold St_standsAt_t0
  exact main 3 0 (by omega)
def ccv (κ : kS) : Nat → Nat → Int32
  | 0, _ => 0
  | d + 1, k => if csa κ k 3 0 = 0 then ccv κ d (k + 1) else if cli (κ 7 0) (κ 7 (2 * k + 2)) 16 0 = 0 then ccv κ d (k + 1) else 1
theorem isCovered_y (h : LV D κ) (hc : sml (κ 1 0 3) 200) (hle : N (κ 1 0 3) ≤ N (κ 3 0 0)) (he : κ 6 0 2 = 0) (hz : ∀ k, k < N (κ 1 0 3) → κ 6 (2 * k + 2) 2 = 0) {x1 : Int32} : Ev (fun n => Ya_isCovered_f n 0 (D.1 1 0) x1 (rn D κ)) (ccv κ (N (κ 1 0 3)) 0, rn D κ) := by
  have hb := hc.2
  have k1 := h.k1
  have main : ∀ d k, k + d = N (κ 1 0 3) → Ev (fun n => Ya_isCovered_f n 2 (D.1 1 0) (J k) (rn D κ)) (ccv κ d k, rn D κ) := by
    intro d
    induction d with
    | zero =>
      intro k hk
      refine Ev.succ (fun n => Ya_isCovered_e2 n _ _ _) ?_
      unfold Ya_isCovered_t2
      simp only [obd, rd1 k1]
      refine Ev.pos ?_ Ev.ret
      rw [hc.1, J_le (by omega) (by omega)]
      omega
    | succ d ih =>
      intro k hk
      have k19 := h.2.2.2.2.1 k (by omega)
      have kzb := h.zb (show k < N (κ 3 0 0) by omega)
      refine Ev.succ (fun n => Ya_isCovered_e2 n _ _ _) ?_
      unfold Ya_isCovered_t2
      simp only [obd, bnd, oel, rd1 k1, if_true, stateAt_in h hc hle (show k < N (κ 1 0 3) by omega), rd19 k19.1]
      refine Ev.neg (sml_nle hc (by omega) (by omega)) ?_
      refine Ev.ob (standsAt_y h (show k < N (κ 3 0 0) by omega)) ?_
      dsimp only
      show Ev _ ((if csa κ k 3 0 = 0 then ccv κ d (k + 1) else if cli (κ 7 0) (κ 7 (2 * k + 2)) 16 0 = 0 then ccv κ d (k + 1) else 1), rn D κ)
      rw [show J k + 1 = J (k + 1) from J_add k 1]
      by_cases g : csa κ k 3 0 = 0
      · rw [if_pos g]
        exact Ev.pos g (ih (k + 1) (by omega))
      · rw [if_neg g]
        refine Ev.neg g ?_
        simp only [rd1 k1, rd19 k19.1, rd6 h.z0.1, if_true]
        have z0 := rn_zoA (κ := κ) h.z0.1 h.z0.2
        have zk := rn_zoA (κ := κ) kzb.1 kzb.2
        rw [show zn 0 = 4 from rfl] at z0
        rw [zn_e] at zk
        have l := liesIn_c (by omega) z0 zk (Or.inl he) (x2 := 0)
        rw [he, hz k (by omega)] at l
        simp only [if_true] at l
        refine Ev.ob l ?_
        dsimp only
        by_cases g2 : cli (κ 7 0) (κ 7 (2 * k + 2)) (4 * 4) 0 = 0
        · rw [if_pos g2]
          exact Ev.pos g2 (ih (k + 1) (by omega))
        · rw [if_neg g2]
          exact Ev.neg g2 Ev.ret
  refine Ev.succ (fun n => Ya_isCovered_e0 n _ _ _) ?_
  unfold Ya_isCovered_t0
  exact main _ 0 (by omega)
end CG
