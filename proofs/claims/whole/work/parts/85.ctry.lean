/-! the class's tryMove goes as the reference's -/
theorem Ev.oeS {α β : Type} {a : α} {x : Nat → Option β} {f : Nat → α → Option β} {R : β} (h : Ev (fun n => f n a) R) : Ev (fun n => oel (some a) (x n) (f n)) R := h
theorem Ev.oeN {α β : Type} {x : Nat → Option β} {f : Nat → α → Option β} {R : β} (h : Ev x R) : Ev (fun n => oel (none : Option α) (x n) (f n)) R := h
theorem Ev.obs {α β : Type} {a : α} {f : Nat → α → Option β} {R : β} (h : Ev (fun n => f n a) R) : Ev (fun n => obd (some a) (f n)) R := h
def cY (v : Mv) : Int32 := match v.2.2 with
  | none => (-2 : Int32)
  | some t => J t.1
def cU (v : Mv) : Int32 := match v.2.2 with
  | none => (-2 : Int32)
  | some t => J t.2
def arv (σ : mS) (p : Nat → Nat) (i : Nat) : Int32 := if i < N (σ 1 0) then J (p i) else (-2 : Int32)
section TP
variable {D : kD} {κ : kS} {σ : mS} {z k : Nat} {v : Mv}
theorem neg2_J {m : Nat} (h : m < 2147483648) : (-2 : Int32) ≠ J m := by
  intro t
  have e : (-2 : Int32).toInt = (J m).toInt := by rw [t]
  rw [J_int h] at e
  have : (-2 : Int32).toInt = -2 := by decide
  omega
theorem tm_pre (h : YW D κ σ) (hA : AI σ) (hC : CR κ σ) (hk : k < N (σ 22 0)) (hv : mvE σ v) : ∃ f : Nat → Int32, (∀ i, i < 3 → f i = arv σ (mPX σ k v) i) ∧ ∀ R : Int32 × xH × Nat × Nat, (Ev (fun n => tmC n (D.1 1 0) (D.1 19 k) (D.1 16 (12 * v.1 + v.2.1)) (cTk D v) (J v.1) (J v.2.1) (cY v) (cU v) (rn D (kf κ 5 0 f)) z) R → Ev (fun n => Ya_tryMove_f n (D.1 1 0) (some (D.1 19 k)) (J v.1) (J v.2.1) (cY v) (cU v) (rn D κ) z) R) := by
  obtain ⟨m, w, o⟩ := v
  have hD := h.1.1
  have k1 := h.1.k1
  have k5 := h.1.2.1 5 (by decide) (by decide) (by decide)
  have k19 := h.1.2.2.2.2.1 k (by have := hC.2.2.2.1; omega)
  have hm : m < N (σ 1 0) := hv.1.1
  have hw : w < N (σ 3 m) := hv.1.2
  have hm3 : m < 3 := by have := h.2.2.1.2; omega
  have hw12 : w < 12 := by have := (h.2.2.2.1 m hm3).2.2; omega
  have k16 := h.k16 hm hw
  have y := ((h.2.1.2 m hm).2.2 w hw).1
  have s8 := (h.2.2.2.2.2.2.1 (12 * m + w) (by omega)).2.1.1
  have sr := hC.2.2.2.2.2.1 k hk
  have pl : ∀ i, i < N (σ 1 0) → κ 20 k i = J (mP0 σ k i) := fun i hi => by
    have hb := h.2.2.1.2
    rw [sr.1 i (by omega)]
    exact (hA.1.2.2 k i hk hi).1
  have pl2 : ∀ i, N (σ 1 0) ≤ i → i < 3 → κ 20 k i = (-2 : Int32) := fun i h1 h2 => by
    rw [sr.1 i h2]
    exact hC.2.2.2.2.2.2.1 k i hk h1 h2
  let κa : kS := kf κ 5 0 (va_cpy (κ 20 k) (κ 5 0) 0 0 3)
  have ea : ∀ i, i < 3 → va_cpy (κ 20 k) (κ 5 0) 0 0 3 i = κ 20 k i := fun i hi => cpy3 _ _ hi
  have qa16 : ∀ x, κa 16 x = κ 16 x := fun x => kf_k (by decide)
  have e5 : κa 5 0 = va_cpy (κ 20 k) (κ 5 0) 0 0 3 := kf_e _ _ _ _
  have ya : YW D κa σ := h.kf (by decide) (by decide) (by decide) (by decide) (fun t => absurd t (by decide)) (by decide)
  have w1 : Ev (fun n => Ya_wayAt_f n (D.1 1 0) (J m) (J w) (rn D κ)) (some (D.1 16 (12 * m + w)), rn D κ) := ⟨0, fun n _ => h.wa hm hw n⟩
  cases o with
  | none =>
    have w2 : Ev (fun n => Ya_wayAt_f n (D.1 1 0) (-2) (-2) (rn D κ)) (none, rn D κ) := ⟨0, fun n _ => wayAt_om h.1 h.mc (fun m' hm' => neg2_J (by have := h.mc.2; omega)) n _⟩
    refine ⟨fu (κa 5 0) m (σ 8 (12 * m + w)), fun i hi => ?_, fun R e => ?_⟩
    · rw [e5]
      unfold arv
      show _ = if i < N (σ 1 0) then J (p1m σ m w (mP0 σ k) i) else -2
      unfold p1m upp
      by_cases g : i = m
      · rw [g, fu_e, if_pos hm, if_pos rfl]; exact s8
      · rw [fu_n g, ea i hi]
        by_cases g2 : i < N (σ 1 0)
        · rw [if_pos g2, if_neg g]; exact pl i g2
        · rw [if_neg g2]; exact pl2 i (by omega) hi
    · unfold Ya_tryMove_f
      refine Ev.pos (rd1 k1).1 (Ev.ob w1 (Ev.bn (Ev.pos (rd1 k1).1 (Ev.ob w2 (Ev.bn (Ev.oeS (Ev.obs ?_)))))))
      refine Ev.ob (Ev.cn (by simp only [rd19 k19.1]; rfl)) (Ev.ob (Ev.cn (by simp only [rd1 k1]; rfl)) (Ev.obs (Ev.obs ?_)))
      refine Ev.ob (Ev.cn (rn_cpi2 hD k5 k19.2.1)) ?_
      refine Ev.ob (Ev.cn (by simp only [rd1 k1]; rfl)) (Ev.ob (Ev.cn (a := σ 8 (12 * m + w)) (by simp only [rd16 k16.1]; rw [kf_k (by decide), y.2.1])) (Ev.obs ?_))
      refine Ev.ob (Ev.cn (krp5 hD k5 hm3 _)) ?_
      refine Ev.oeN ?_
      have e2 : ku κa 5 0 m (σ 8 (12 * m + w)) = kf κ 5 0 (fu (κa 5 0) m (σ 8 (12 * m + w))) := kf_kf _ _ _ _ _
      rw [← e2] at e
      exact e
  | some t =>
    obtain ⟨b, u⟩ := t
    have hb : b < N (σ 1 0) := (hv.2 (b, u) rfl).1
    have hu : u < N (σ 3 b) := (hv.2 (b, u) rfl).2
    have hb3 : b < 3 := by have := h.2.2.1.2; omega
    have hu12 : u < 12 := by have := (h.2.2.2.1 b hb3).2.2; omega
    have k162 := h.k16 hb hu
    have y2 := ((h.2.1.2 b hb).2.2 u hu).1
    have s82 := (h.2.2.2.2.2.2.1 (12 * b + u) (by omega)).2.1.1
    have w2 : Ev (fun n => Ya_wayAt_f n (D.1 1 0) (J b) (J u) (rn D κ)) (some (D.1 16 (12 * b + u)), rn D κ) := ⟨0, fun n _ => h.wa hb hu n⟩
    refine ⟨fu (fu (κa 5 0) m (σ 8 (12 * m + w))) b (σ 8 (12 * b + u)), fun i hi => ?_, fun R e => ?_⟩
    · rw [e5]
      unfold arv
      show _ = if i < N (σ 1 0) then J (p2m σ m w b u (mP0 σ k) i) else -2
      unfold p2m upp
      by_cases g0 : i = b
      · rw [g0, fu_e, if_pos hb, if_pos rfl]; exact s82
      · rw [fu_n g0]
        by_cases g : i = m
        · rw [g, fu_e, if_pos hm, if_neg (by rw [← g]; exact g0), if_pos rfl]; exact s8
        · rw [fu_n g, ea i hi]
          by_cases g2 : i < N (σ 1 0)
          · rw [if_pos g2, if_neg g0, if_neg g]; exact pl i g2
          · rw [if_neg g2]; exact pl2 i (by omega) hi
    · unfold Ya_tryMove_f
      refine Ev.pos (rd1 k1).1 (Ev.ob w1 (Ev.bn (Ev.pos (rd1 k1).1 (Ev.ob w2 (Ev.bn (Ev.oeS (Ev.obs ?_)))))))
      refine Ev.ob (Ev.cn (by simp only [rd19 k19.1]; rfl)) (Ev.ob (Ev.cn (by simp only [rd1 k1]; rfl)) (Ev.obs (Ev.obs ?_)))
      refine Ev.ob (Ev.cn (rn_cpi2 hD k5 k19.2.1)) ?_
      refine Ev.ob (Ev.cn (by simp only [rd1 k1]; rfl)) (Ev.ob (Ev.cn (a := σ 8 (12 * m + w)) (by simp only [rd16 k16.1]; rw [kf_k (by decide), y.2.1])) (Ev.obs ?_))
      refine Ev.ob (Ev.cn (krp5 hD k5 hm3 _)) ?_
      refine Ev.oeS ?_
      refine Ev.ob (Ev.cn (by simp only [rd1 k1]; rfl)) (Ev.ob (Ev.cn (a := σ 8 (12 * b + u)) (by simp only [rd16 k162.1]; rw [ku_k (by decide), kf_k (by decide), y2.2.1])) (Ev.obs ?_))
      refine Ev.ob (Ev.cn (krp5 hD k5 hb3 _)) ?_
      have e2 : ku (ku κa 5 0 m (σ 8 (12 * m + w))) 5 0 b (σ 8 (12 * b + u)) = kf κ 5 0 (fu (fu (κa 5 0) m (σ 8 (12 * m + w))) b (σ 8 (12 * b + u))) := by
        show kf (kf κa 5 0 (fu (κa 5 0) m (σ 8 (12 * m + w)))) 5 0 (fu (kf κa 5 0 (fu (κa 5 0) m (σ 8 (12 * m + w))) 5 0) b (σ 8 (12 * b + u))) = _
        rw [kf_e, kf_kf]
        exact kf_kf _ _ _ _ _
      rw [← e2] at e
      exact e
end TP
