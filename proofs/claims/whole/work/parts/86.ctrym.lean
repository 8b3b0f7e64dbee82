/-! the class's tryMove against the reference's: every outcome -/
section TM
variable {D : kD} {κ : kS} {σ σ' : mS} {z k : Nat} {v : Mv}
theorem J_200 : (200 : Int32) = J 200 := rfl
theorem mvs_cmv (v : Mv) (hv : mOk v) (i : Nat) : mvs v.1 v.2.1 (mY v) (mU v) i = cmv (J v.1) (J v.2.1) (cY v) (cU v) i := by
  obtain ⟨m, w, o⟩ := v
  unfold mvs cmv
  cases o with
  | none =>
    show (if i = 0 then J m else if i = 1 then J w else if i = 2 then (if (0 : Int32) ≤ -1 then (-1 : Int32) else -2) else (if (0 : Int32) ≤ -1 then (-1 : Int32) else -2)) = if i = 0 then J m else if i = 1 then J w else if i = 2 then (-2 : Int32) else -2
    rw [if_neg (show ¬ (0 : Int32) ≤ -1 by decide)]
  | some t =>
    have ht : t.1 < 3 := by
      have := hv.2.2
      exact this.1
    show (if i = 0 then J m else if i = 1 then J w else if i = 2 then (if 0 ≤ J t.1 then J t.1 else -2) else (if 0 ≤ J t.1 then J t.2 else -2)) = if i = 0 then J m else if i = 1 then J w else if i = 2 then J t.1 else J t.2
    rw [if_pos (J_pos (by omega)), if_pos (J_pos (by omega))]
/-- seen, for the class and for the reference -/
theorem covered_is (hC : CR κ σ) (hb : N (σ 1 0) ≤ 3) {p : Nat → Nat} {μ : kS} (h5 : ∀ i, i < 3 → μ 5 0 i = arv σ p i) (hw : kws κ k μ) {Z : Nat → Int32} (hz : cagr 4 (μ 7 0) Z) : (∃ j, 0 ≤ j ∧ j < 0 + N (σ 22 0) ∧ cvd μ j) ↔ seenP σ p Z := by
  have one : ∀ j, j < N (σ 22 0) → (cvd μ j ↔ (∀ i, i < N (σ 1 0) → σ 24 (3 * j + i) = J (p i)) ∧ sZ σ Z j) := fun j hj => by
    have sr := hC.2.2.2.2.2.1 j hj
    have e20 : μ 20 j = κ 20 j := hw.1 20 j (by omega) (by omega) (by omega)
    have e7 : μ 7 (2 * j + 2) = κ 7 (2 * j + 2) := hw.1 7 _ (by omega) (by omega) (by omega)
    unfold cvd
    rw [e20, e7]
    rw [lies_sZ (σ := σ) (j := j) hz sr.2.2.2.2.2.2.2.1.1]
    refine and_congr ⟨fun t i hi => ?_, fun t i hi => ?_⟩ Iff.rfl
    · have := t i (by omega)
      rw [sr.1 i (by omega), h5 i (by omega)] at this
      rw [this]
      unfold arv
      rw [if_pos hi]
    · rw [sr.1 i hi, h5 i hi]
      unfold arv
      by_cases g : i < N (σ 1 0)
      · rw [if_pos g]; exact t i g
      · rw [if_neg g]; exact hC.2.2.2.2.2.2.1 j i hj (by omega) hi
  constructor
  · rintro ⟨j, _, h2, h3⟩
    have := (one j (by omega)).mp h3
    exact ⟨j, by omega, this.1, this.2⟩
  · rintro ⟨j, h1, h2, h3⟩
    exact ⟨j, by omega, by omega, (one j h1).mpr ⟨h2, h3⟩⟩
theorem SRl_cj {κ κ' : kS} {σ σ' : mS} {j : Nat} (h : SRl κ σ j) (e20 : κ' 20 j = κ 20 j) (e21 : κ' 21 j = κ 21 j) (e19 : ∀ c, c ≠ 6 → c ≠ 7 → c ≠ 8 → κ' 19 j c = κ 19 j c) (e6 : κ' 19 j 6 = σ' 28 j) (e7 : κ' 7 (2 * j + 2) = κ 7 (2 * j + 2)) (e7' : κ' 7 (2 * j + 3) = κ 7 (2 * j + 3)) (e6z : κ' 6 (2 * j + 2) = κ 6 (2 * j + 2)) (e6' : κ' 6 (2 * j + 3) = κ 6 (2 * j + 3)) (s24 : ∀ i, i < 3 → σ' 24 (3 * j + i) = σ 24 (3 * j + i)) (s27 : σ' 27 j = σ 27 j) (s30 : σ' 30 j = σ 30 j) (s31 : ∀ i, i < 4 → σ' 31 (4 * j + i) = σ 31 (4 * j + i)) (s32 : σ' 32 j = σ 32 j) (s33 : σ' 33 j = σ 33 j) (s25 : ∀ b, b < 25 → σ' 25 (25 * j + b) = σ 25 (25 * j + b)) (s26 : ∀ b, b < 25 → σ' 26 (25 * j + b) = σ 26 (25 * j + b)) : SRl κ' σ' j := by
  obtain ⟨h1, h2, h3, h4, h5, h6, h7, ⟨h8, h9⟩, h10, h11⟩ := h
  refine ⟨fun i hi => by rw [e20, s24 i hi]; exact h1 i hi, ?_, e6, ?_, fun t i hi => by rw [e21, s31 i hi]; exact h5 t i hi, ?_, ?_, ⟨fun i b hi hb => ?_, ?_⟩, fun i b hi hb => ?_, ?_⟩
  · rw [e19 5 (by decide) (by decide) (by decide), s27]; exact h2
  · rw [e19 9 (by decide) (by decide) (by decide), s30]; exact h4
  · rw [e19 10 (by decide) (by decide) (by decide), s32]; exact h6
  · rw [e19 11 (by decide) (by decide) (by decide), s33]; exact h7
  · rw [e7, h8 i b hi hb]
    exact (s25 (5 * i + b) (by omega)).symm
  · rw [e6z]; exact h9
  · rw [e7', h10 i b hi hb]
    exact (s26 (5 * i + b) (by omega)).symm
  · rw [e6']; exact h11
theorem tryMove_y (h : YW D κ σ) (hF : FZ D κ z) (hA : AI σ) (hC : CR κ σ) (hL : LK κ σ k) (hk : k < N (σ 22 0)) (hv : mvE σ v) (hsp : σ 37 0 = 0) (ho : mvO σ k v σ') : ∃ D' κ' r c s, Ev (fun n => Ya_tryMove_f n (D.1 1 0) (some (D.1 19 k)) (J v.1) (J v.2.1) (cY v) (cU v) (rn D κ) z) (r, rn D' κ', c, s) ∧ WS D κ z D' κ' σ' c s ∧ LK κ' σ' k ∧ ((r = 0 ∧ ¬ σ' 37 0 = 0) ∨ (r = 1 ∧ σ' 37 0 = 0)) := by
  have hD := h.1.1
  have k1 := h.1.k1
  have hmade : k < N (κ 3 0 0) := by have := hC.2.2.2.1; omega
  have k19 := h.1.2.2.2.2.1 k hmade
  have z0 := h.1.z0
  have zb := h.1.zb hmade
  have hs22 := hA.1.2.1
  have sr := hC.2.2.2.2.2.1 k hk
  have ok := mvE_ok hA.1.1 hv
  have mc3 := h.2.2.1.2
  -- arrival
  obtain ⟨f, hf, pre⟩ := tm_pre (z := z) h hA hC hk hv
  have pin : ∀ a, a < N (σ 1 0) → mPX σ k v a < N (σ 2 a) := fun a ha => mPX_in hA hk hv ha
  generalize hp : mPX σ k v = p at pin hf
  have yb : YW D (kf κ 5 0 f) σ := h.kf (by decide) (by decide) (by decide) (by decide) (fun t => absurd t (by decide)) (by decide)
  have hpb : ∀ (μ : kS), μ 5 0 = f → ∀ a, a < N (σ 1 0) → μ 5 0 a = J (p a) ∧ p a < N (σ 2 a) := fun μ e a ha => by
    rw [e, hf a (by omega)]
    unfold arv
    rw [if_pos ha]
    exact ⟨rfl, pin a ha⟩
  have b6 : ∀ ix, kf κ 5 0 f 6 ix = κ 6 ix := fun ix => kf_k (by decide)
  have b7 : ∀ ix, kf κ 5 0 f 7 ix = κ 7 ix := fun ix => kf_k (by decide)
  have e6k : κ 6 (2 * k + 2) 2 = 0 := sr.2.2.2.2.2.2.2.1.2
  -- next as the state's zone
  have c1 := zo_as (κ := kf κ 5 0 f) hD z0.1 z0.2 zb.1 zb.2 (by rw [zn_e]; rfl) (by omega) (by rw [b6]; exact Or.inl e6k)
  generalize hq0 : ((fun i => if i < zn 0 * zn 0 then kf κ 5 0 f 7 (2 * k + 2) i else kf κ 5 0 f 7 0 i, kf κ 5 0 f 6 (2 * k + 2) 2) : zQ) = q0 at c1
  have q02 : q0.2 = 0 := by
    rw [← hq0]
    show kf κ 5 0 f 6 (2 * k + 2) 2 = 0
    rw [b6]; exact e6k
  have q0a : agr 4 (ci 4 q0.1) (zz σ k) := by
    have cz := cagr_ci sr.2.2.2.2.2.2.2.1.1
    intro i j hi hj
    have : ci 4 q0.1 i j = ci 4 (κ 7 (2 * k + 2)) i j := by
      unfold ci
      rw [← hq0]
      show (if i * 4 + j < zn 0 * zn 0 then kf κ 5 0 f 7 (2 * k + 2) (i * 4 + j) else _).toInt = _
      rw [if_pos (by show i * 4 + j < 4 * 4; omega), b7]
    rw [this]
    exact cz i j hi hj
  have f1 := follow_y (yb.kz 0 q0) (p := p) (hpb _ (by rw [kz_k (by decide) (by decide), kf_e])) z0.1 z0.2 hv
  rw [kz_kz, kz_q, show zn 0 = 4 from rfl] at f1
  have s1 := stay_y (yb.kz 0 (crunQ 4 (mvA σ v p) q0)) (p := p) (hpb _ (by rw [kz_k (by decide) (by decide), kf_e])) z0.1 z0.2
  rw [kz_kz, kz_q, show zn 0 = 4 from rfl, show crunQ 4 ((Sum.inr none : Op) :: limL σ p) (crunQ 4 (mvA σ v p) q0) = crunQ 4 (mvOps σ v p) q0 by rw [mvOps_A, crunQ_app]] at s1
  have zn' := zone_next hA hk hv q02 q0a (g := κ 4 0) (b8 := κ 1 0 8) hC.2.1.1 hC.2.1.2 (σ 15)
  rw [hp] at zn'
  have hkept := mvO_kept hA.1 hk ok ho
  unfold mvO tmO at ho
  rw [hp] at ho
  generalize hqB : qB σ k p (mGZ σ v) (σ 15) = B at zn' ho
  generalize hqf : crunQ 4 (mvOps σ v p) q0 = qf at s1 zn'
  obtain ⟨o1, o2, o3, o4⟩ := ho
  -- the steps up to EMPTY or not
  have head : ∀ R, Ev (fun n => if qf.2 = 0 then obd (gi (rn D (kz (kf κ 5 0 f) 0 qf)) (D.1 19 k) 2 7) (fun u92 => obd (pf (rn D (kz (kf κ 5 0 f) 0 qf)) (D.1 19 k) 2 7 (.int ((u92) + ((1 : Int32))))) (fun h97 => (if kc h97 (D.1 1 0) 3 = true then obd (Ya_letGreatGo_f n (D.1 1 0) h97) (fun r103 => (if kc r103.2 (D.1 1 0) 3 = true then obd (Ya_isCovered_f n 0 (D.1 1 0) 0 r103.2) (fun r104 => (if r104.1 = 0 then obd (gi r104.2 (D.1 1 0) 3 3) (fun u106 => (if u106 < (200 : Int32) then tmN n (D.1 1 0) (D.1 19 k) (D.1 16 (12 * v.1 + v.2.1)) (cTk D v) (J v.1) (J v.2.1) (cY v) (cU v) r104.2 z else some ((0 : Int32), r104.2, 0, 0))) else obd (gi r104.2 (D.1 19 k) 2 8) (fun u233 => obd (pf r104.2 (D.1 19 k) 2 8 (.int ((u233) + ((1 : Int32))))) (fun h238 => some ((1 : Int32), h238, 0, 0))))) else none)) else none))) else some ((1 : Int32), rn D (kz (kf κ 5 0 f) 0 qf), 0, 0)) R → Ev (fun n => Ya_tryMove_f n (D.1 1 0) (some (D.1 19 k)) (J v.1) (J v.2.1) (cY v) (cU v) (rn D κ) z) R := by
    intro R e
    refine pre R ?_
    unfold tmC
    refine Ev.ob (Ev.cn (by simp only [rd1 k1] <;> rfl)) (Ev.ob (Ev.cn (by simp only [rd19 k19.1] <;> rfl)) (Ev.obs (Ev.pos (rd6 z0.1).1 ?_)))
    refine Ev.ob ⟨0, fun n _ => c1 n⟩ ?_
    refine Ev.ob (Ev.cn (by simp only [rd1 k1] <;> rfl)) (Ev.pos (rd1 k1).1 (Ev.ob f1 ?_))
    refine Ev.ob (Ev.cn (by simp only [rd1 k1] <;> rfl)) (Ev.pos (rd1 k1).1 (Ev.ob s1 ?_))
    refine Ev.ob (Ev.cn (by simp only [rd1 k1] <;> rfl)) (Ev.obs ?_)
    have q2 : kz (kf κ 5 0 f) 0 qf 6 0 2 = qf.2 := congrArg Prod.snd (kz_q (kf κ 5 0 f) 0 qf)
    refine Ev.ob (Ev.cn (a := qf.2) (by simp only [rd6 z0.1]; rw [q2])) ?_
    exact e
  have wb : ∀ q, kws κ k (kz (kf κ 5 0 f) 0 q) := fun q => ⟨fun kd ix n5 n67 n19 => by rw [kz_o n67, kf_n n5], fun c _ _ => by rw [kz_k (by decide) (by decide), kf_k (by decide)]⟩
  have k7 := hL.1.1
  have k8 := hL.1.2
  rcases zn' with ⟨zB, zf⟩ | ⟨zB, zf, zl, zc⟩
  · -- EMPTY
    have hx := o1 (by rw [zB]; decide)
    have ss : sst σ σ' := sx_sst (sst.rf σ) hx
    have w := wb qf
    obtain ⟨ky1, kx1, k31⟩ := kws_ky w
    have e37 : σ' 37 0 = 0 := by rw [hx 37 0 (by decide)]; exact hsp
    refine ⟨D, kz (kf κ 5 0 f) 0 qf, 1, 0, 0, head _ (Ev.neg (by rw [zf]; decide) Ev.ret), ⟨Dx.rf D, YW_sst (h.cg kx1 ky1 k31) ss.1, hF.cg kx1 k31, by rw [k31]; omega, by rw [k31]; exact Nat.le_refl _, CR_cg hC w ss, kws_fr w⟩, LK_cg hL w ss ?_ ?_, Or.inr ⟨rfl, e37⟩⟩
    · rw [kz_k (by decide) (by decide), kf_k (by decide), hx 40 0 (by decide)]; exact k7
    · rw [kz_k (by decide) (by decide), kf_k (by decide), hx 41 0 (by decide)]; exact k8
  · -- not EMPTY: one more MOVE, LET GO, seen or not
    let κ2 : kS := ku (kz (kf κ 5 0 f) 0 qf) 19 k 7 (σ 40 0 + 1)
    let qg : zQ := lgq (κ 1 0 8) (κ 4 0) qf
    let κ3 : kS := kz κ2 0 qg
    have u7 : kz (kf κ 5 0 f) 0 qf 19 k 7 = σ 40 0 := by rw [kz_k (by decide) (by decide), kf_k (by decide)]; exact k7
    have w3 : kws κ k κ3 := by
      refine ⟨fun kd ix n5 n67 n19 => ?_, fun c h7 h8 => ?_⟩
      · show kz κ2 0 qg kd ix = _
        rw [kz_o n67]
        show ku (kz (kf κ 5 0 f) 0 qf) 19 k 7 (σ 40 0 + 1) kd ix = _
        rw [ku_n n19, kz_o n67, kf_n n5]
      · show kz κ2 0 qg 19 k c = _
        rw [kz_k (by decide) (by decide)]
        show ku (kz (kf κ 5 0 f) 0 qf) 19 k 7 (σ 40 0 + 1) 19 k c = _
        rw [ku_e, fu_n h7, kz_k (by decide) (by decide), kf_k (by decide)]
    obtain ⟨ky3, kx3, k33⟩ := kws_ky w3
    have y3 : YW D κ3 σ := h.cg kx3 ky3 k33
    have q20 : kq κ2 0 = qf := by
      show (ku (kz (kf κ 5 0 f) 0 qf) 19 k 7 (σ 40 0 + 1) 7 0, ku (kz (kf κ 5 0 f) 0 qf) 19 k 7 (σ 40 0 + 1) 6 0 2) = qf
      rw [ku_k (by decide), ku_k (by decide)]
      exact kz_q _ _ _
    have q18 : κ2 1 0 = κ 1 0 := by
      show ku (kz (kf κ 5 0 f) 0 qf) 19 k 7 (σ 40 0 + 1) 1 0 = _
      rw [ku_k (by decide), kz_k (by decide) (by decide), kf_k (by decide)]
    have q14 : κ2 4 0 = κ 4 0 := by
      show ku (kz (kf κ 5 0 f) 0 qf) 19 k 7 (σ 40 0 + 1) 4 0 = _
      rw [ku_k (by decide), kz_k (by decide) (by decide), kf_k (by decide)]
    have q13 : κ2 3 0 0 = κ 3 0 0 := by
      show ku (kz (kf κ 5 0 f) 0 qf) 19 k 7 (σ 40 0 + 1) 3 0 0 = _
      rw [ku_k (by decide), kz_k (by decide) (by decide), kf_k (by decide)]
    have L2 : LV D κ2 := ((yb.kz 0 qf).1).ku (by decide) (by decide) (by decide) (by decide) (fun t => absurd t (by decide))
    have e20 : κ2 6 0 2 = 0 := (congrArg Prod.snd q20).trans zf
    have lg := letGreatGo_y L2 e20
    rw [q18, q14, q20, show κ2 7 0 = qf.1 from congrArg Prod.fst q20] at lg
    have q37 : κ3 7 0 = qg.1 := congrArg Prod.fst (kz_q κ2 0 qg)
    have q36 : κ3 6 0 2 = 0 := (congrArg Prod.snd (kz_q κ2 0 qg)).trans zl
    have q35 : κ3 5 0 = f := by
      show kz κ2 0 qg 5 0 = _
      rw [kz_k (by decide) (by decide)]
      show ku (kz (kf κ 5 0 f) 0 qf) 19 k 7 (σ 40 0 + 1) 5 0 = _
      rw [ku_k (by decide), kz_k (by decide) (by decide), kf_e]
    have q31 : κ3 1 0 = κ 1 0 := w3.1 1 0 (by omega) (by omega) (by omega)
    have q319 : κ3 19 k 7 = σ 40 0 + 1 ∧ κ3 19 k 8 = σ 41 0 := by
      have e : κ3 19 k = fu (κ 19 k) 7 (σ 40 0 + 1) := by
        show kz κ2 0 qg 19 k = _
        rw [kz_k (by decide) (by decide)]
        show ku (kz (kf κ 5 0 f) 0 qf) 19 k 7 (σ 40 0 + 1) 19 k = _
        rw [ku_e, kz_k (by decide) (by decide), kf_k (by decide)]
      rw [e, fu_e, fu_n (by decide)]
      exact ⟨rfl, k8⟩
    have c22 : κ3 1 0 3 = σ 22 0 := by rw [q31]; exact hC.1
    have cv := isCovered_y y3.1 (by rw [c22]; exact hs22) (by rw [c22, k33]; exact hC.2.2.2.1) q36 (fun j hj => by
      rw [c22] at hj
      rw [w3.1 6 _ (by omega) (by omega) (by omega)]
      exact (hC.2.2.2.2.2.1 j hj).2.2.2.2.2.2.2.1.2) (x1 := 0)
    rw [c22] at cv
    have covd := covered_is hC mc3 (p := p) (μ := κ3) (fun i hi => by rw [q35]; exact hf i hi) w3 (Z := B.1) (by rw [q37]; exact zc)
    have mid : ∀ R, Ev (fun n => if ccv κ3 (N (σ 22 0)) 0 = 0 then obd (gi (rn D κ3) (D.1 1 0) 3 3) (fun u106 => (if u106 < (200 : Int32) then tmN n (D.1 1 0) (D.1 19 k) (D.1 16 (12 * v.1 + v.2.1)) (cTk D v) (J v.1) (J v.2.1) (cY v) (cU v) (rn D κ3) z else some ((0 : Int32), rn D κ3, 0, 0))) else obd (gi (rn D κ3) (D.1 19 k) 2 8) (fun u233 => obd (pf (rn D κ3) (D.1 19 k) 2 8 (.int ((u233) + ((1 : Int32))))) (fun h238 => some ((1 : Int32), h238, 0, 0)))) R → Ev (fun n => Ya_tryMove_f n (D.1 1 0) (some (D.1 19 k)) (J v.1) (J v.2.1) (cY v) (cU v) (rn D κ) z) R := by
      intro R e
      refine head R (Ev.pos zf ?_)
      refine Ev.ob (Ev.cn (a := σ 40 0) (by simp only [rd19 k19.1]; rw [u7])) (Ev.ob (Ev.cn (rw19_7 hD k19.1 _)) ?_)
      refine Ev.pos (rd1 k1).1 (Ev.ob lg (Ev.pos (rd1 k1).1 (Ev.ob cv e)))
    rcases ccv_is κ3 (N (σ 22 0)) 0 with ⟨r1, seen⟩ | ⟨r0, seen⟩
    · -- it lies WITHIN a state's
      have hx := o2 zB (covd.mp seen)
      have ss : sst σ σ' := sx_sst (sst_su (sst_su (sst.rf σ) (by decide)) (by decide)) hx
      have w4 : kws κ k (ku κ3 19 k 8 (σ 41 0 + 1)) := ⟨fun kd ix n5 n67 n19 => by rw [ku_n n19]; exact w3.1 kd ix n5 n67 n19, fun c h7 h8 => by rw [ku_e, fu_n h8]; exact w3.2 c h7 h8⟩
      obtain ⟨ky4, kx4, k34⟩ := kws_ky w4
      have e37 : σ' 37 0 = 0 := by rw [hx 37 0 (by decide), su_n (by decide), su_n (by decide)]; exact hsp
      refine ⟨D, ku κ3 19 k 8 (σ 41 0 + 1), 1, 0, 0, mid _ (Ev.neg (by rw [r1]; decide) (Ev.ob (Ev.cn (a := σ 41 0) (by simp only [rd19 k19.1]; rw [q319.2])) (Ev.ob (Ev.cn (rw19_8 hD k19.1 _)) Ev.ret))), ⟨Dx.rf D, YW_sst (h.cg kx4 ky4 k34) ss.1, hF.cg kx4 k34, by rw [k34]; omega, by rw [k34]; exact Nat.le_refl _, CR_cg hC w4 ss, kws_fr w4⟩, LK_cg hL w4 ss ?_ ?_, Or.inr ⟨rfl, e37⟩⟩
      · rw [ku_e, fu_n (by decide), q319.1, hx 40 0 (by decide), su_n (by decide), su_e]
      · rw [ku_e, fu_e, hx 41 0 (by decide), su_e]
    · have ns : ¬ seenP σ p B.1 := fun t => seen (covd.mpr t)
      by_cases full : σ 22 0 = 200
      · -- SPENT
        have hx := o3 zB ns full
        have ss : sst σ σ' := sx_sst (sst_su (sst_su (sst.rf σ) (by decide)) (by decide)) hx
        have e37 : ¬ σ' 37 0 = 0 := by rw [hx 37 0 (by decide), su_e]; decide
        refine ⟨D, κ3, 0, 0, 0, mid _ (Ev.pos r0 (Ev.ob (Ev.cn (a := σ 22 0) (by simp only [rd1 k1]; rw [c22])) (Ev.neg (by rw [full]; decide) Ev.ret))), ⟨Dx.rf D, YW_sst y3 ss.1, hF.cg kx3 k33, by rw [k33]; omega, by rw [k33]; exact Nat.le_refl _, CR_cg hC w3 ss, kws_fr w3⟩, LK_cg hL w3 ss ?_ ?_, Or.inl ⟨rfl, e37⟩⟩
        · rw [q319.1, hx 40 0 (by decide), su_n (by decide), su_e]
        · rw [q319.2, hx 41 0 (by decide), su_n (by decide), su_n (by decide)]
      · -- a new STATE
        have hx := o4 zB ns full
        have ex : σ 22 0 = J (N (σ 22 0)) := hs22.1
        have hxb : N (σ 22 0) < 200 := by
          have := hs22.2
          by_cases g : N (σ 22 0) = 200
          · exact absurd (by rw [ex, g]; rfl) full
          · omega
        generalize hxx : N (σ 22 0) = x at hx ex hxb hk hs22
        have hF3 : FZ D κ3 z := hF.cg kx3 k33
        have w19 : ∀ j, κ3 19 j 0 = κ 19 j 0 := fun j => by
          by_cases g : j = k
          · rw [g]; exact w3.2 0 (by decide) (by decide)
          · rw [w3.1 19 j (by omega) (by omega) (by omega)]
        have lex : x ≤ N (κ 3 0 0) := by have := hC.2.2.2.1; omega
        obtain ⟨D', κ', c, s, ev, no, fr, e1, e19k, e20', e21, e19x, ⟨e7b, e6b⟩, qe, qe1, qe2, qeq, esn⟩ := tmN_y y3 hF3 (by rw [k33]; exact hC.2.2.1) (fun j hj => by rw [k33] at hj; rw [w19]; exact hC.2.2.2.2.1 j hj) (hpb κ3 q35) (x := x) (by rw [c22]; exact ex) hxb (by rw [k33]; exact lex) hk hv q36 (by rw [w3.1 6 _ (by omega) (by omega) (by omega)]; exact sr.2.2.2.2.2.2.2.2.2) (x2 := J v.1) (x3 := J v.2.1) (x4 := cY v) (x5 := cU v)
        have zex := zone_exact hA (by rw [hxx]; exact hk) hv qe2 (fun i j hi hj => by
          have cz := cagr_ci sr.2.2.2.2.2.2.2.2.1
          have : ci 5 qe.1 i j = ci 5 (κ 7 (2 * k + 3)) i j := by
            unfold ci
            rw [qe1 _ (by omega), w3.1 7 _ (by omega) (by omega) (by omega)]
          rw [this]
          exact cz i j hi hj) (σ 15) B.1 (by rw [hp, hqB]; exact zB)
        rw [hp] at zex
        obtain ⟨nDx, nYW, nFZ, ncs, nsm, nkn, nmm, nnum⟩ := no
        rw [k33] at ncs nmm
        have fr2 : ∀ kd ix, ¬ (kd = 1 ∧ ix = 0) → ¬ nid x kd ix → ¬ (kd = 19 ∧ ix = k) → ¬ (kd = 5 ∧ ix = 0) → ¬ ((kd = 6 ∨ kd = 7) ∧ ix = 0) → κ' kd ix = κ kd ix := fun kd ix n1 n2 n3 n4 n5 => (fr kd ix n1 n2 n3).trans (w3.1 kd ix n4 n5 n3)
        have fj : ∀ j, j < x → κ' 20 j = κ 20 j ∧ κ' 21 j = κ 21 j ∧ κ' 7 (2 * j + 2) = κ 7 (2 * j + 2) ∧ κ' 7 (2 * j + 3) = κ 7 (2 * j + 3) ∧ κ' 6 (2 * j + 2) = κ 6 (2 * j + 2) ∧ κ' 6 (2 * j + 3) = κ 6 (2 * j + 3) := fun j hj => ⟨fr2 _ _ (by omega) (by unfold nid; omega) (by omega) (by omega) (by omega), fr2 _ _ (by omega) (by unfold nid; omega) (by omega) (by omega) (by omega), fr2 _ _ (by omega) (by unfold nid; omega) (by omega) (by omega) (by omega), fr2 _ _ (by omega) (by unfold nid; omega) (by omega) (by omega) (by omega), fr2 _ _ (by omega) (by unfold nid; omega) (by omega) (by omega) (by omega), fr2 _ _ (by omega) (by unfold nid; omega) (by omega) (by omega) (by omega)⟩
        have f19 : ∀ j, j < x → j ≠ k → κ' 19 j = κ 19 j := fun j hj hjk => fr2 19 j (by omega) (by unfold nid; omega) (by omega) (by omega) (by omega)
        have f19k : ∀ c, c ≠ 6 → c ≠ 7 → c ≠ 8 → κ' 19 k c = κ 19 k c := fun c h6 h7 h8 => by rw [e19k, fu_n h6]; exact w3.2 c h7 h8
        have t22 : σ' 22 0 = J (x + 1) := by
          rw [hx 22 0 (by decide)]
          show σ 22 0 + 1 = _
          rw [ex]
          exact J_add x 1
        have n22 : N (σ' 22 0) = x + 1 := by rw [t22]; exact J_nat (by omega)
        have t24 : ∀ b, σ' 24 b = if 3 * x ≤ b ∧ b < 3 * x + 3 then (if b - 3 * x < N (σ 1 0) then J (p (b - 3 * x)) else (-2 : Int32)) else σ 24 b := fun b => hx 24 b (by decide)
        have t25 : ∀ b, σ' 25 b = if 25 * x ≤ b ∧ b < 25 * x + 25 then B.1 (b - 25 * x) else σ 25 b := fun b => hx 25 b (by decide)
        have t26 : ∀ b, σ' 26 b = if 25 * x ≤ b ∧ b < 25 * x + 25 then (qE σ k p (mGZ σ v) B.1).1 (b - 25 * x) else σ 26 b := fun b => hx 26 b (by decide)
        have t27 : ∀ b, σ' 27 b = if b = x then J k else σ 27 b := fun b => hx 27 b (by decide)
        have t28 : ∀ b, σ' 28 b = if b = x then 0 else if b = k then σ 28 k + 1 else σ 28 b := fun b => hx 28 b (by decide)
        have t29 : ∀ b, σ' 29 b = if b = x then (-2 : Int32) else σ 29 b := fun b => hx 29 b (by decide)
        have t30 : ∀ b, σ' 30 b = if b = x then σ 30 k + 1 else σ 30 b := fun b => hx 30 b (by decide)
        have t31 : ∀ b, σ' 31 b = if 4 * x ≤ b ∧ b < 4 * x + 4 then mvs v.1 v.2.1 (mY v) (mU v) (b - 4 * x) else σ 31 b := fun b => hx 31 b (by decide)
        have t32 : ∀ b, σ' 32 b = if b = x then sel 1 ((ql σ 5 p (mGZ σ v 5 (szq (σ 26) k B.1, 0))).1 4) else σ 32 b := fun b => hx 32 b (by decide)
        have t33 : ∀ b, σ' 33 b = if b = x then hlp σ p else σ 33 b := fun b => hx 33 b (by decide)
        have t40 : σ' 40 0 = σ 40 0 + 1 := hx 40 0 (by decide)
        have t41 : σ' 41 0 = σ 41 0 := hx 41 0 (by decide)
        have t37 : σ' 37 0 = σ 37 0 := hx 37 0 (by decide)
        have t23 : σ' 23 0 = σ 23 0 := hx 23 0 (by decide)
        have t34 : σ' 34 0 = σ 34 0 := hx 34 0 (by decide)
        have t35 : σ' 35 0 = σ 35 0 := hx 35 0 (by decide)
        have t1 : σ' 1 0 = σ 1 0 := hkept.1 1 0 (by decide) (by decide)
        have cr : CR κ' σ' := by
          obtain ⟨c1', c2', c3', c4', c5', c6', c7', c8'⟩ := hC
          refine ⟨by rw [e1, fu_e, t22], ⟨by rw [e1, fu_n (by decide), q31, hkept.2.2.1]; exact c2'.1, fun tt b hb => ?_⟩, nsm, by rw [n22]; exact nkn, nnum, fun j hj => ?_, fun j i hj h1 h2 => ?_, fun j hj => ?_⟩
          · rw [hkept.2.2.1] at tt
            rw [fr2 4 0 (by omega) (by unfold nid; omega) (by omega) (by omega) (by omega), hkept.2.1]
            exact c2'.2 tt b hb
          · rw [n22] at hj
            by_cases g : j = x
            · rw [g]
              have qe7 : κ' 7 (2 * x + 3) = (crunQ 5 (mvOps σ v p) qe).1 := congrArg Prod.fst qeq
              have qe6 : κ' 6 (2 * x + 3) 2 = (crunQ 5 (mvOps σ v p) qe).2 := congrArg Prod.snd qeq
              refine ⟨fun i hi => ?_, ?_, ?_, ?_, fun _ i hi => ?_, ?_, ?_, ⟨fun i b hi hb => ?_, e6b⟩, fun i b hi hb => ?_, ?_⟩
              · rw [e20' i hi, q35, hf i hi, t24, if_pos (by omega)]
                unfold arv
                rw [show 3 * x + i - 3 * x = i by omega]
              · rw [e19x.2.1, t27, if_pos rfl]
                unfold pT
                rw [if_neg (J_nneg (by omega))]
              · rw [e19x.2.2.2.1, t28, if_pos rfl]
              · rw [e19x.2.2.1, t30, if_pos rfl, w3.2 9 (by decide) (by decide), sr.2.2.2.1]
              · rw [e21 i hi, t31, if_pos (by omega), show 4 * x + i - 4 * x = i by omega, mvs_cmv v ok]
              · rw [esn, zex.2.2, t32, if_pos rfl]
                unfold sel
                rw [if_neg (by decide)]
              · rw [e19x.2.2.2.2.2.2, t33, if_pos rfl]
              · dsimp only
                rw [e7b _ (by omega), q37, zc i b hi hb, t25, if_pos (by omega), show 25 * x + (5 * i + b) - 25 * x = 5 * i + b by omega]
              · dsimp only
                rw [qe7, zex.2.1 i b hi hb, t26, if_pos (by omega), show 25 * x + (5 * i + b) - 25 * x = 5 * i + b by omega]
              · rw [qe6]; exact zex.1
            · have hjx : j < x := by omega
              have fjj := fj j hjx
              refine SRl_cj (c6' j (by omega)) fjj.1 fjj.2.1 (fun c h6 h7 h8 => ?_) ?_ fjj.2.2.1 fjj.2.2.2.1 fjj.2.2.2.2.1 fjj.2.2.2.2.2 (fun i hi => by rw [t24, if_neg (by omega)]) (by rw [t27, if_neg g]) (by rw [t30, if_neg g]) (fun i hi => by rw [t31, if_neg (by omega)]) (by rw [t32, if_neg g]) (by rw [t33, if_neg g]) (fun b hb => by rw [t25, if_neg (by omega)]) (fun b hb => by rw [t26, if_neg (by omega)])
              · by_cases gk : j = k
                · rw [gk]; exact f19k c h6 h7 h8
                · rw [f19 j hjx gk]
              · rw [t28, if_neg g]
                by_cases gk : j = k
                · rw [gk, if_pos rfl, e19k, fu_e, w3.2 6 (by decide) (by decide), sr.2.2.1]
                · rw [if_neg gk, f19 j hjx gk]
                  exact (c6' j (by omega)).2.2.1
          · rw [n22] at hj
            rw [t1] at h1
            rw [t24]
            by_cases g : j = x
            · rw [g, if_pos (by omega), if_neg (by omega)]
            · rw [if_neg (by omega)]
              exact c7' j i (by omega) h1 h2
          · rw [n22] at hj
            by_cases g : j = x
            · rw [g]
              refine ⟨fun t0 => by omega, fun _ => ⟨k, hk, by rw [t27, if_pos rfl], by rw [t30, t30, if_pos rfl, if_neg (by omega)]⟩⟩
            · have tj := c8' j (by omega)
              refine ⟨fun t0 => ?_, fun t0 => ?_⟩
              · rw [t27, t30, if_neg (by omega), if_neg (by omega)]
                exact tj.1 t0
              · obtain ⟨i, i1, i2, i3⟩ := tj.2 t0
                exact ⟨i, i1, by rw [t27, if_neg g]; exact i2, by rw [t30, t30, if_neg g, if_neg (by omega)]; exact i3⟩
        have lk' : LK κ' σ' k := by
          obtain ⟨l1, l2, l3, l4, l5, l6, l7, l8⟩ := hL
          refine ⟨⟨by rw [e19k, fu_n (by decide), q319.1, t40], by rw [e19k, fu_n (by decide), q319.2, t41]⟩, fun j hj hj2 => ?_, fun j hj => ?_, fun j hj hj2 => ?_, by rw [e1, fu_n (by decide), q31, t23]; exact l5, by rw [e1, fu_n (by decide), q31, t34]; exact l6, by rw [e1, fu_n (by decide), q31, t35]; exact l7, by rw [t23]; exact l8⟩
          · rw [n22] at hj2
            by_cases g : j = x
            · rw [g]; exact ⟨e19x.2.2.2.2.1, e19x.2.2.2.2.2.1⟩
            · rw [f19 j (by omega) (by omega)]
              exact l2 j hj (by omega)
          · rw [f19 j (by omega) (by omega), t29, if_neg (by omega)]
            exact l3 j hj
          · rw [n22] at hj2
            rw [t29]
            by_cases g : j = x
            · rw [if_pos g]
            · rw [if_neg g]
              exact l4 j hj (by omega)
        have kf' : kfr κ κ' := ⟨fr2 6 1 (by omega) (by unfold nid; omega) (by omega) (by omega) (by omega), fr2 7 1 (by omega) (by unfold nid; omega) (by omega) (by omega) (by omega), fun kd ix hh => fr2 kd ix (by omega) (by unfold nid; omega) (by omega) (by omega) (by omega), by rw [e1, fu_n (by decide), q31]⟩
        refine ⟨D', κ', 1, c, s, mid _ (Ev.pos ?_ (Ev.ob (Ev.cn (a := σ 22 0) (by simp only [rd1 k1]; rw [c22])) (Ev.pos ?_ ev))), ⟨nDx, YW_sst nYW hkept.1, nFZ, ncs, nmm, cr, kf'⟩, lk', Or.inr ⟨rfl, by rw [t37]; exact hsp⟩⟩
        · exact r0
        · rw [ex, J_200, J_lt (by omega) (by omega)]; exact hxb
end TM
