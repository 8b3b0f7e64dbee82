/-! the class's begin and walk -/
def kB (κ : kS) : kS := ku (ku (ku (ku (ku κ 1 0 3 0) 1 0 4 0) 1 0 5 0) 1 0 6 0) 1 0 7 1
theorem kB_n {κ : kS} {kd ix : Nat} (h : ¬ (kd = 1 ∧ ix = 0)) : kB κ kd ix = κ kd ix := by
  unfold kB
  rw [ku_n h, ku_n h, ku_n h, ku_n h, ku_n h]
theorem kB_1 (κ : kS) : kB κ 1 0 = fu (fu (fu (fu (fu (κ 1 0) 3 0) 4 0) 5 0) 6 0) 7 1 := by
  unfold kB
  rw [ku_e, ku_e, ku_e, ku_e, ku_e]
theorem kB_x (κ : kS) : kxd κ (kB κ) ∧ ky κ (kB κ) ∧ kB κ 3 0 0 = κ 3 0 0 := by
  have e1 : kB κ 1 0 1 = κ 1 0 1 := by rw [kB_1]; rfl
  exact ⟨⟨e1, by funext y; exact kB_n (by omega), fun m => kB_n (by omega), fun d => kB_n (by omega)⟩, ⟨e1, by funext y; exact kB_n (by omega), by funext y; exact kB_n (by omega), by funext y; exact kB_n (by omega), by funext y; exact kB_n (by omega), by funext y; exact kB_n (by omega), by funext y; exact kB_n (by omega), by funext y; exact kB_n (by omega)⟩, by rw [kB_n (by omega)]⟩
section WK
variable {D : kD} {κ : kS} {σ σ1 : mS} {z : Nat}
theorem arrive_31 (h : YW D κ σ) {R : Int32 × xH × Nat × Nat} : ∀ d m (f : Nat → Int32), m + d = 3 → Ev (fun n => Ya_begin_f n 31 (D.1 1 0) (J 3) (rn D (kf κ 5 0 (it (fun i g => fu g i (if i < N (σ 1 0) then 0 else (-2 : Int32))) m d f))) z) R → Ev (fun n => Ya_begin_f n 31 (D.1 1 0) (J m) (rn D (kf κ 5 0 f)) z) R := by
  have hb := h.2.2.1
  have k1 := h.1.k1
  have k5 := h.1.2.1 5 (by decide) (by decide) (by decide)
  intro d
  induction d with
  | zero => intro m f hm e; rw [show m = 3 by omega]; exact e
  | succ d ih =>
    intro m f hm e
    have hm3 : m < 3 := by omega
    have g1 : gi (rn D (kf κ 5 0 f)) (D.1 1 0) 3 1 = some (σ 1 0) := by simp only [rd1 k1]; rw [kf_k (by decide), h.2.1.1]
    have st1 : it (fun i g => fu g i (if i < N (σ 1 0) then 0 else (-2 : Int32))) m (d + 1) f = it (fun i g => fu g i (if i < N (σ 1 0) then 0 else (-2 : Int32))) (m + 1) d (fu f m (if m < N (σ 1 0) then 0 else (-2 : Int32))) := rfl
    rw [st1] at e
    have nx := ih (m + 1) _ (by omega) e
    refine Ev.succ (fun n => Ya_begin_e31 n _ _ _ _) ?_
    unfold Ya_begin_t31
    refine Ev.neg (by rw [J3, J_le (by omega) (by omega)]; omega) ?_
    refine Ev.ob (Ev.cn (a := some (D.1 5 0)) (by simp only [rd1 k1])) (Ev.ob (Ev.cn g1) ?_)
    have pw : ∀ v, pa (rn D (kf κ 5 0 f)) (D.1 5 0) 0 (J m) v = some (rn D (kf κ 5 0 (fu f m v))) := fun v => by
      rw [krp5 h.1.1 k5 hm3]
      unfold ku
      rw [kf_e, kf_kf]
    by_cases g : m < N (σ 1 0)
    · rw [if_pos g] at nx
      refine Ev.neg (sml_nle hb (by omega) g) (Ev.obs (Ev.ob (Ev.cn (pw 0)) ?_))
      rw [show J m + 1 = J (m + 1) from J_add m 1]
      exact nx
    · rw [if_neg g] at nx
      refine Ev.pos (by rw [hb.1, J_le (by have := hb.2; omega) (by omega)]; omega) (Ev.obs (Ev.ob (Ev.cn (pw (-2))) ?_))
      rw [show J m + 1 = J (m + 1) from J_add m 1]
      exact nx
theorem wB_n {s b : Nat} (h0 : s ≠ 0) (h21 : s ≠ 21) (h36 : s ≠ 36) (h22 : s ≠ 22) (h23 : s ≠ 23) (h34 : s ≠ 34) (h35 : s ≠ 35) (h37 : s ≠ 37) : wB σ s b = σ s b := by
  unfold wB
  rw [su_n h37, su_n h35, su_n h34, su_n h23, su_n h22, su_n h36, su_n h21, su_n h0]
theorem begin_y (h : YW D κ σ) (hF : FZ D κ z) (hV : WV σ) (hc : canW σ) (hs : sml (κ 3 0 0) 200) (hnum : ∀ j, j < N (κ 3 0 0) → κ 19 j 0 = J j) (ho : stO (wS σ) σ1) {x1 : Int32} : ∃ D' κ' c s, Ev (fun n => Ya_begin_f n 0 (D.1 1 0) x1 (rn D κ) z) (0, rn D' κ', c, s) ∧ WS D (kB κ) z D' κ' σ1 c s ∧ LB κ' σ1 0 ∧ σ1 37 0 = 0 := by
  have hD := h.1.1
  have k1 := h.1.k1
  obtain ⟨bx, by_, b3⟩ := kB_x κ
  have yqB : yq (wB σ) σ := fun a b h1 h2 => wB_n (by omega) (by omega) (by omega) (by omega) (by omega) (by omega) (by omega) (by omega)
  have y0 : YW D (kB κ) (wB σ) := YW_sst (h.cg bx by_ b3) yqB
  have V0 : WV (wB σ) := hV.eq yqB
  have fg := findGreatest_y y0 V0 (x1 := 0) (x2 := 0)
  have gr := cfg_is y0.2.2 V0 (kB κ 4 0)
  generalize hT : it (cfA (wB σ)) 0 (N (wB σ 1 0)) (fun b => if b < 4 then 0 else kB κ 4 0 b, 1) = T at fg gr
  have yg : YW D (kg (kB κ) T) (wS σ) := YW_sst (y0.kg T) (fun a b h1 h2 => by
    show eg (wB σ) (fgA (wB σ)) a b = _
    exact eg_ne _ _ _ (by omega) (by omega))
  let f3 : Nat → Int32 := it (fun i g => fu g i (if i < N (wS σ 1 0) then 0 else (-2 : Int32))) 0 3 (kg (kB κ) T 5 0)
  have f3i : ∀ i, i < 3 → f3 i = arv (wS σ) pz0 i := fun i hi => by
    show it (fun i g => fu g i (if i < N (wS σ 1 0) then 0 else (-2 : Int32))) 0 3 (kg (kB κ) T 5 0) i = _
    rw [it_fu0 (fun i => if i < N (wS σ 1 0) then 0 else (-2 : Int32))]
    dsimp only
    rw [if_pos hi]
    rfl
  let κb : kS := kf (kg (kB κ) T) 5 0 f3
  have yb : YW D κb (wS σ) := yg.kf (by decide) (by decide) (by decide) (by decide) (fun t => absurd t (by decide)) (by decide)
  have b1 : κb 1 0 = fu (kB κ 1 0) 8 T.2 := by
    show kf (kg (kB κ) T) 5 0 f3 1 0 = _
    rw [kf_k (by decide), kg_1]
  have b4 : κb 4 0 = T.1 := by
    show kf (kg (kB κ) T) 5 0 f3 4 0 = _
    rw [kf_k (by decide), kg_4]
  have bn : ∀ kd ix, kd ≠ 1 → kd ≠ 4 → kd ≠ 5 → κb kd ix = kB κ kd ix := fun kd ix n1 n4 n5 => by
    show kf (kg (kB κ) T) 5 0 f3 kd ix = _
    rw [kf_k n5, kg_k ix n1 n4]
  have bb3 : κb 3 0 0 = κ 3 0 0 := by rw [bn 3 0 (by decide) (by decide) (by decide)]; exact b3
  have xb : kxd (kB κ) κb := ⟨by rw [b1]; rfl, by funext y; exact bn 9 y (by decide) (by decide) (by decide), fun m => bn 10 m (by decide) (by decide) (by decide), fun d => bn 22 d (by decide) (by decide) (by decide)⟩
  have fzb : FZ D κb z := (hF.cg bx b3).cg xb (by rw [bb3, b3])
  have s20 : wS σ 20 0 = (fgA (wB σ)).2 := eg_20 _ _
  have s19 : ∀ b, wS σ 19 b = (fgA (wB σ)).1 b := fun b => eg_19 _ _ b
  have sn : ∀ s b, s ≠ 19 → s ≠ 20 → wS σ s b = wB σ s b := fun s b h1 h2 => eg_ne _ _ b h1 h2
  have w22 : wS σ 22 0 = J 0 := by
    rw [sn 22 0 (by decide) (by decide)]
    unfold wB
    rw [su_n (by decide), su_n (by decide), su_n (by decide), su_n (by decide), su_e]
    rfl
  have w23 : wS σ 23 0 = J 0 := by
    rw [sn 23 0 (by decide) (by decide)]
    unfold wB
    rw [su_n (by decide), su_n (by decide), su_n (by decide), su_e]
    rfl
  have w34 : wS σ 34 0 = 0 := by
    rw [sn 34 0 (by decide) (by decide)]
    unfold wB
    rw [su_n (by decide), su_n (by decide), su_e]
  have w35 : wS σ 35 0 = 0 := by
    rw [sn 35 0 (by decide) (by decide)]
    unfold wB
    rw [su_n (by decide), su_e]
  have w37 : wS σ 37 0 = 0 := by
    rw [sn 37 0 (by decide) (by decide)]
    unfold wB
    rw [su_e]
  have yS : yq (wS σ) σ := wS_yq σ
  have cS : canW (wS σ) := by
    unfold canW
    rw [yS 1 0 (by decide) (by decide)]
    exact ⟨hc.1, fun a ha => by rw [yS 2 a (by decide) (by decide)]; exact hc.2 a ha⟩
  obtain ⟨D', κ', c, s, ev, ws, lb, sp⟩ := start_y yb fzb (hV.eq yS) (wS_gC h.2.2 hV) cS ⟨by rw [b1, fu_e, s20]; exact gr.1, fun t b hb => by rw [b4, s19]; rw [s20] at t; exact gr.2.2 t b hb⟩ (by rw [bb3]; exact hs) (fun j hj => by rw [bb3] at hj; rw [bn 19 j (by decide) (by decide) (by decide), kB_n (by omega)]; exact hnum j hj) (fun i hi => by
    show kf (kg (kB κ) T) 5 0 f3 5 0 i = _
    rw [kf_e]; exact f3i i hi) (by rw [b1, fu_n (by decide), kB_1]; rfl) w22 ⟨by rw [b1, fu_n (by decide), kB_1]; rfl, by rw [b1, fu_n (by decide), kB_1]; rfl, by rw [b1, fu_n (by decide), kB_1]; rfl⟩ ⟨w23, w34, w35⟩ w37 ho
  have kfb : kfr (kB κ) κb := ⟨bn 6 1 (by decide) (by decide) (by decide), bn 7 1 (by decide) (by decide) (by decide), fun kd ix hh => bn kd ix (by omega) (by omega) (by omega), by rw [b1, fu_n (by decide)]⟩
  have e3 : κb 3 0 0 = kB κ 3 0 0 := by rw [bb3, b3]
  refine ⟨D', κ', c, s, ?_, ⟨ws.1, ws.2.1, ws.2.2.1, by rw [← e3]; exact ws.2.2.2.1, by rw [← e3]; exact ws.2.2.2.2.1, ws.2.2.2.2.2.1, kfb.tr ws.2.2.2.2.2.2⟩, lb, sp⟩
  refine Ev.succ (fun n => Ya_begin_e0 n _ _ _ _) ?_
  unfold Ya_begin_t0
  refine Ev.ob (Ev.cn (rw1_3 hD k1 0)) (Ev.ob (Ev.cn (rw1_4 hD k1 0)) (Ev.ob (Ev.cn (rw1_5 hD k1 0)) (Ev.ob (Ev.cn (rw1_6 hD k1 0)) (Ev.ob (Ev.cn (rw1_7 hD k1 1)) (Ev.pos (rd1 k1).1 (Ev.ob fg ?_))))))
  have a31 := arrive_31 (z := z) yg (R := (0, rn D' κ', c, s)) 3 0 (kg (kB κ) T 5 0) (by omega) ev
  have id5 : kf (kg (kB κ) T) 5 0 (kg (kB κ) T 5 0) = kg (kB κ) T := by
    funext x y
    by_cases g : x = 5 ∧ y = 0
    · rw [g.1, g.2, kf_e]
    · rw [kf_n g]
  rw [id5] at a31
  exact a31
theorem canBeWalked_y (h : YW D κ σ) {x1 : Int32} : ∃ r, Ev (fun n => Ya_canBeWalked_f n 0 (D.1 1 0) x1 (rn D κ)) (r, rn D κ) ∧ ((r = 0 ∧ ¬ canW σ) ∨ (r = 1 ∧ canW σ)) := by
  have hb := h.2.2.1
  have k1 := h.1.k1
  have g1 : gi (rn D κ) (D.1 1 0) 3 1 = some (σ 1 0) := by simp only [rd1 k1]; rw [h.2.1.1]
  have main : ∀ d a, a + d = N (σ 1 0) → (∀ m, m < a → 0 < N (σ 2 m)) → ∃ r, Ev (fun n => Ya_canBeWalked_f n 2 (D.1 1 0) (J a) (rn D κ)) (r, rn D κ) ∧ ((r = 0 ∧ ¬ canW σ) ∨ (r = 1 ∧ canW σ)) := by
    intro d
    induction d with
    | zero =>
      intro a ha hm
      have pre : ∀ R, Ev (fun n => if σ 1 0 ≤ 0 then some ((0 : Int32), rn D κ) else some ((1 : Int32), rn D κ)) R → Ev (fun n => Ya_canBeWalked_f n 2 (D.1 1 0) (J a) (rn D κ)) R := fun R e => by
        refine Ev.succ (fun n => Ya_canBeWalked_e2 n _ _ _) ?_
        unfold Ya_canBeWalked_t2
        exact Ev.ob (Ev.cn g1) (Ev.pos (by rw [hb.1, J_le (by have := hb.2; omega) (by have := hb.2; omega)]; omega) (Ev.ob (Ev.cn g1) e))
      by_cases g : N (σ 1 0) = 0
      · exact ⟨0, pre _ (Ev.pos (by rw [hb.1, g]; decide) Ev.ret), Or.inl ⟨rfl, fun t => by have := t.1; omega⟩⟩
      · refine ⟨1, pre _ (Ev.neg ?_ Ev.ret), Or.inr ⟨rfl, by omega, fun m hm' => hm m (by omega)⟩⟩
        rw [hb.1, J0, J_le (by have := hb.2; omega) (by omega)]
        omega
    | succ d ih =>
      intro a ha hm
      have ha' : a < N (σ 1 0) := by omega
      have ha3 : a < 3 := by have := hb.2; omega
      have y := (h.2.1.2 a ha').1.1
      have s2 := (h.2.2.2.1 a ha3).1
      by_cases g : 0 < N (σ 2 a)
      · obtain ⟨r, e, o⟩ := ih (a + 1) (by omega) (fun m hm' => by
          by_cases e : m = a
          · rw [e]; exact g
          · exact hm m (by omega))
        refine ⟨r, ?_, o⟩
        refine Ev.succ (fun n => Ya_canBeWalked_e2 n _ _ _) ?_
        unfold Ya_canBeWalked_t2
        refine Ev.ob (Ev.cn g1) (Ev.neg (sml_nle hb (by omega) ha') (Ev.pos (rd1 k1).1 (Ev.ob ⟨0, fun n _ => h.pl ha' g n⟩ (Ev.bn (Ev.oeS ?_)))))
        rw [show J a + 1 = J (a + 1) from J_add a 1]
        exact e
      · refine ⟨0, ?_, Or.inl ⟨rfl, fun t => g (t.2 a ha')⟩⟩
        have po := placeAt_op h.1 h.mc (by rw [h.2.1.1]; exact ha') (by rw [y]; exact s2) (y := J 0) (fun p hp => by rw [y] at hp; omega)
        refine Ev.succ (fun n => Ya_canBeWalked_e2 n _ _ _) ?_
        unfold Ya_canBeWalked_t2
        exact Ev.ob (Ev.cn g1) (Ev.neg (sml_nle hb (by omega) ha') (Ev.pos (rd1 k1).1 (Ev.ob ⟨0, fun n _ => po n⟩ (Ev.bn (Ev.oeN Ev.ret)))))
  obtain ⟨r, e, o⟩ := main (N (σ 1 0)) 0 (by omega) (fun m hm => by omega)
  refine ⟨r, ?_, o⟩
  refine Ev.succ (fun n => Ya_canBeWalked_e0 n _ _ _) ?_
  unfold Ya_canBeWalked_t0
  exact e
theorem wkF_dead : ∀ {d k : Nat} {σ σ' : mS}, wkF d k σ σ' → ¬ σ 37 0 = 0 → σ' = σ := by
  intro d k σ σ' h g
  cases d with
  | zero => exact h
  | succ d => exact h.2 (fun t => g t.2)
def wAns (σ : mS) : Int32 := if σ 37 0 = 0 then σ 22 0 else ((-2 : Int32)) - σ 22 0
theorem wk_21 : ∀ d k (D : kD) (κ : kS) (z : Nat) (σ σ' : mS), k + d = 200 → YW D κ σ → FZ D κ z → AI σ → CR κ σ → LB κ σ k → k ≤ N (σ 22 0) → σ 37 0 = 0 → wkF d k σ σ' → ∃ D' κ' c s, Ev (fun n => Ti_walk_f n 21 (D.1 0 0) (J k) (rn D κ) z) (wAns σ', rn D' κ', c, s) ∧ WS D κ z D' κ' σ' c s ∧ LE κ' σ' ∧ AI σ' ∧ yq σ' σ := by
  intro d
  induction d with
  | zero =>
    intro k D κ z σ σ' hk h hF hA hC hB hle hsp hw
    have e : σ' = σ := hw
    rw [e]
    have k0 := h.1.2.1 0 (by decide) (by decide) (by decide)
    have k1 := h.1.k1
    refine ⟨D, κ, 0, 0, ?_, ⟨Dx.rf D, h, hF, by omega, Nat.le_refl _, hC, kfr.rf κ⟩, ?_, hA, fun _ _ _ _ => rfl⟩
    · refine Ev.succ (fun n => Ti_walk_e21 n _ _ _ _) ?_
      unfold Ti_walk_t21
      refine Ev.pos (by rw [J_200, J_le (by omega) (by omega)]; omega) ?_
      refine Ev.ob (Ev.cn (a := some (D.1 1 0)) (by simp only [rd0 k0])) (Ev.obs (Ev.ob (Ev.cn (a := σ 22 0) (by simp only [rd1 k1]; rw [hC.1])) ?_))
      have wa : wAns σ = σ 22 0 := if_pos hsp
      rw [wa]
      exact Ev.ret
    · exact ⟨k, hle, hB.2.1, hB.2.2.1, hB.2.2.2.1, hB.2.2.2.2.1, hB.2.2.2.2.2.1, hB.2.2.2.2.2.2⟩
  | succ d ih =>
    intro k D κ z σ σ' hk h hF hA hC hB hle hsp hw
    have k0 := h.1.2.1 0 (by decide) (by decide) (by decide)
    have k1 := h.1.k1
    have n200 : ¬ ((200 : Int32) ≤ J k) := by rw [J_200, J_le (by omega) (by omega)]; omega
    have wa : wAns σ = σ 22 0 := if_pos hsp
    by_cases g : k < N (σ 22 0)
    · obtain ⟨σ1, m1, m2⟩ := hw.1 g hsp
      obtain ⟨D1, κ1, r, c1, s1, e1, w1, a1, n1, y1, fi⟩ := lookAt_y h hF hA hC hB g hsp m1 (x2 := 0) (x3 := 0)
      have st := stateAt_in h.1 (by rw [hC.1]; exact hA.1.2.1) (by rw [hC.1]; exact hC.2.2.2.1) (k := k) (by rw [hC.1]; exact g)
      have d0 := w1.1.1 0 0 k0
      have d1 := w1.1.1 1 0 k1
      have step : ∀ (rr : Int32) (hh : xH) (c2 s2 : Nat), Ev (fun n => if r = 0 then obd (gq (rn D1 κ1) (D.1 0 0) 4 0) (fun w66 => obd w66 (fun a71 => obd (gi (rn D1 κ1) (a71) 3 3) (fun u72 => some ((((-2) : Int32)) - (u72), rn D1 κ1, 0, 0)))) else Ti_walk_f n 21 (D.1 0 0) (J (k + 1)) (rn D1 κ1) (z + c1)) (rr, hh, c2, s2) → Ev (fun n => Ti_walk_f n 21 (D.1 0 0) (J k) (rn D κ) z) (rr, hh, c2 + c1, s2 + s1) := fun rr hh c2 s2 e => by
        refine Ev.succ (fun n => Ti_walk_e21 n _ _ _ _) ?_
        unfold Ti_walk_t21
        refine Ev.neg n200 ?_
        refine Ev.ob (Ev.cn (a := some (D.1 1 0)) (by simp only [rd0 k0])) (Ev.obs (Ev.pos (rd1 k1).1 (Ev.ob ⟨0, fun n _ => st n⟩ (Ev.bn (Ev.oeS ?_)))))
        refine Ev.ob (Ev.cn (a := some (D.1 1 0)) (by simp only [rd0 k0])) (Ev.obs (Ev.pos (rd1 k1).1 (Ev.ob e1 ?_)))
        rw [show J k + 1 = J (k + 1) from J_add k 1]
        exact Ev.oad e
      rcases fi with ⟨r0, q, le⟩ | ⟨r1, q, lb⟩
      · have e' := wkF_dead m2 q
        rw [e']
        refine ⟨D1, κ1, c1, s1, ?_, w1, le, a1, y1⟩
        have wa1 : wAns (lkE σ1 k) = (-2 : Int32) - lkE σ1 k 22 0 := if_neg q
        rw [wa1]
        have := step ((-2 : Int32) - lkE σ1 k 22 0) (rn D1 κ1) 0 0 (Ev.pos r0 (Ev.ob (Ev.cn (a := some (D1.1 1 0)) (by rw [← d0.1]; simp only [rd0 d0.2])) (Ev.obs (Ev.ob (Ev.cn (a := lkE σ1 k 22 0) (by simp only [rd1 d1.2]; rw [w1.2.2.2.2.2.1.1])) Ev.ret))))
        rw [Nat.zero_add, Nat.zero_add] at this
        exact this
      · obtain ⟨D', κ', c, s, e2, w2, l2, a2, y2⟩ := ih (k + 1) D1 κ1 (z + c1) (lkE σ1 k) σ' (by omega) w1.2.1 w1.2.2.1 a1 w1.2.2.2.2.2.1 lb (by omega) q m2
        refine ⟨D', κ', c1 + c, s1 + s, ?_, w1.tr w2, l2, a2, fun a b ha hb => (y2 a b ha hb).trans (y1 a b ha hb)⟩
        rw [d0.1] at e2
        have := step _ _ _ _ (Ev.neg (by rw [r1]; decide) e2)
        rw [Nat.add_comm c c1, Nat.add_comm s s1] at this
        exact this
    · have e : σ' = σ := hw.2 (fun t => g t.1)
      rw [e]
      have so := stateAt_out h.1 (by rw [hC.1]; exact hA.1.2.1) (y := J k) (fun m hm => by rw [hC.1] at hm; intro t; rw [J_eq (by omega) (by have := hA.1.2.1.2; omega)] at t; omega)
      refine ⟨D, κ, 0, 0, ?_, ⟨Dx.rf D, h, hF, by omega, Nat.le_refl _, hC, kfr.rf κ⟩, ?_, hA, fun _ _ _ _ => rfl⟩
      · refine Ev.succ (fun n => Ti_walk_e21 n _ _ _ _) ?_
        unfold Ti_walk_t21
        refine Ev.neg n200 ?_
        refine Ev.ob (Ev.cn (a := some (D.1 1 0)) (by simp only [rd0 k0])) (Ev.obs (Ev.pos (rd1 k1).1 (Ev.ob ⟨0, fun n _ => so n⟩ (Ev.bn (Ev.oeN ?_)))))
        refine Ev.ob (Ev.cn (a := some (D.1 1 0)) (by simp only [rd0 k0])) (Ev.obs (Ev.ob (Ev.cn (a := σ 22 0) (by simp only [rd1 k1]; rw [hC.1])) ?_))
        rw [wa]
        exact Ev.ret
      · exact ⟨k, hle, hB.2.1, hB.2.2.1, hB.2.2.2.1, hB.2.2.2.2.1, hB.2.2.2.2.2.1, hB.2.2.2.2.2.2⟩
theorem walk_y (h : YW D κ σ) (hF : FZ D κ z) (hV : WV σ) (hT : WT σ) (hc : canW σ) (hs : sml (κ 3 0 0) 200) (hnum : ∀ j, j < N (κ 3 0 0) → κ 19 j 0 = J j) {σ2 : mS} (h1 : stO (wS σ) σ1) (h2 : wkF 200 0 σ1 σ2) {x1 : Int32} : ∃ D' κ' c s, Ev (fun n => Ti_walk_f n 0 (D.1 0 0) x1 (rn D κ) z) (wAns σ2, rn D' κ', c, s) ∧ WS D (kB κ) z D' κ' σ2 c s ∧ LE κ' σ2 ∧ AI σ2 := by
  have k0 := h.1.2.1 0 (by decide) (by decide) (by decide)
  have k1 := h.1.k1
  have ai := walk_AI h.2.2 hV hT hc h1 h2
  obtain ⟨r, e0, o0⟩ := canBeWalked_y h (x1 := 0)
  have r1 : r = 1 := by
    rcases o0 with t | t
    · exact absurd hc t.2
    · exact t.1
  obtain ⟨D1, κ1, c1, s1, e1, w1, lb, sp⟩ := begin_y h hF hV hc hs hnum h1 (x1 := 0)
  obtain ⟨D', κ', c, s, e2, w2, l2, a2, y2⟩ := wk_21 200 0 D1 κ1 (z + c1) σ1 σ2 (by omega) w1.2.1 w1.2.2.1 ai.1 w1.2.2.2.2.2.1 lb (by omega) sp h2
  have d0 := w1.1.1 0 0 k0
  rw [d0.1] at e2
  refine ⟨D', κ', c + c1, s + s1, ?_, by rw [Nat.add_comm c c1, Nat.add_comm s s1]; exact w1.tr w2, l2, a2⟩
  refine Ev.succ (fun n => Ti_walk_e0 n _ _ _ _) ?_
  unfold Ti_walk_t0
  refine Ev.ob (Ev.cn (a := some (D.1 1 0)) (by simp only [rd0 k0])) (Ev.obs (Ev.pos (rd1 k1).1 (Ev.ob e0 ?_)))
  refine Ev.neg (show ¬ r = 0 by rw [r1]; decide) ?_
  refine Ev.ob (Ev.cn (a := some (D.1 1 0)) (by simp only [rd0 k0])) (Ev.obs (Ev.pos (rd1 k1).1 (Ev.ob e1 ?_)))
  exact Ev.oad e2
theorem walk_n (h : YW D κ σ) (hc : ¬ canW σ) {x1 : Int32} : Ev (fun n => Ti_walk_f n 0 (D.1 0 0) x1 (rn D κ) z) (-1, rn D κ, 0, 0) := by
  have k0 := h.1.2.1 0 (by decide) (by decide) (by decide)
  have k1 := h.1.k1
  obtain ⟨r, e0, o0⟩ := canBeWalked_y h (x1 := 0)
  have r0 : r = 0 := by
    rcases o0 with t | t
    · exact t.1
    · exact absurd t.2 hc
  refine Ev.succ (fun n => Ti_walk_e0 n _ _ _ _) ?_
  unfold Ti_walk_t0
  refine Ev.ob (Ev.cn (a := some (D.1 1 0)) (by simp only [rd0 k0])) (Ev.obs (Ev.pos (rd1 k1).1 (Ev.ob e0 ?_)))
  exact Ev.pos r0 Ev.ret
end WK
