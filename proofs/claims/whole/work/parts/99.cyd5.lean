/-! place: class and reference -/
section BP
variable {D : kD} {κ : kS} {σ : mS} {τ : mL} {z : Nat}
theorem BO_no (h : YW D κ σ) (hF : FZ D κ z) (hV : WV σ) (hT : WT σ) {r : Int32} {f : Nat → Option (Int32 × xH × Nat × Nat)} {g : Nat → Option (Int32 × mS × mL)} (ef : Ev f (r, rn D κ, 0, 0)) (eg : Ev g (r, su σ 0 0 0, τ)) : BO D κ σ τ z f g := ⟨r, D, κ, su σ 0 0 0, 0, 0, ef, eg, Dx.rf D, YW_sst h (yq_0 σ), hF, hV.eq (yq_0 σ), WT_cg (yq_0 σ) hT, kfy.rf κ, sfy_0 σ, by omega, by omega, MZ_0 σ⟩
theorem place_y (h : YW D κ σ) (hF : FZ D κ z) (hV : WV σ) (hT : WT σ) (x1 : Int32) : BO D κ σ τ z (fun n => Ti_place_f n (D.1 0 0) x1 (rn D κ) z) (fun n => Mo_place_f n x1 σ τ) := by
  have k0 := h.1.2.1 0 (by decide) (by decide) (by decide)
  have k1 := h.1.k1
  have hD := h.1.1
  rcases n_or (N (σ 1 0)) x1 with ⟨m, hm, rfl⟩ | hx
  · have hm3 : m < 3 := by have := h.2.2.1.2; omega
    have c1 := machineAt_in h.1 h.mc (m := m) (by rw [h.2.1.1]; exact hm)
    have c2 := isMachine_in (τ := τ) (σ := su σ 0 0 0) (by rw [su_n (by decide)]; exact h.2.2.1) (m := m) (by rw [su_n (by decide)]; exact hm)
    have lm := h.1.2.2.2.1 m (by rw [h.2.1.1]; exact hm)
    have y := (h.2.1.2 m hm).1
    have s2 := (h.2.2.2.1 m hm3).1
    have nm : Int32.toNatClampNeg (J m) = m := J_nat (by omega)
    have xm : xin (J m) 3 = true := xin_J hm3 (by decide)
    by_cases g : N (σ 2 m) = 6
    · have e2 : σ 2 m = 6 := by rw [s2.1, g]; rfl
      refine BO_no h hF hV hT (r := -2) ?_ ?_
      · unfold Ti_place_f
        simp only [obd, bnd, oel, rd0 k0, rd1 k1, if_true, c1, rd10 lm.1, y.1, e2]
        exact Ev.neg (by decide) Ev.ret
      · unfold Mo_place_f
        simp only [obd, bnd, c2, nm, xm, if_true]
        refine Ev.neg (by decide) (Ev.pos ?_ Ev.ret)
        rw [su_n (by decide)]; exact e2
    · have hc : N (σ 2 m) < 6 := by have := s2.2; omega
      have e2 : σ 2 m = J (N (σ 2 m)) := s2.1
      generalize hcn : N (σ 2 m) = c at hc e2 g
      have y2 : κ 10 m 2 = J c := y.1.trans e2
      have nk : N (κ 10 m 2) = c := by rw [y2]; exact J_nat (by omega)
      have lt6 : J c < 6 := by rw [J6, J_lt (by omega) (by omega)]; omega
      have ne6 : ¬ (J c = 6) := by rw [J6, J_eq (by omega) (by omega)]; omega
      generalize hx : 6 * m + c = x
      have xdm : x / 6 = m ∧ x % 6 = c := by omega
      have dd : ∀ kd, kd = 13 ∨ kd = 14 ∨ kd = 15 → dead D kd x := fun kd hk a e => by
        have l := (hF.2.1 a _ e).2.2.2.1 hk
        dsimp only at l
        rw [xdm.1, xdm.2, nk] at l
        omega
      obtain ⟨x1', x2', x3', dB, dC⟩ := dT_Dx (z := z) (kA := 14) (kB := 15) (kC := 13) (x := x) hF.1 (dd 14 (by omega)) (dd 15 (by omega)) (dd 13 (by omega)) (by decide) (by decide) (by decide)
      have xD := (x1'.tr x2').tr x3'
      generalize hDp : dT D z 14 15 13 x = D' at x3' xD
      let κ1 : kS := kf (kf (kf κ 14 x (fun _ => 0)) 15 x (fun _ => 0)) 13 x (fun _ => 0)
      let κ2 : kS := ku κ1 10 m 2 (J (c + 1))
      have n1 : ∀ kd ix, ¬ (kd = 13 ∧ ix = x) → ¬ (kd = 14 ∧ ix = x) → ¬ (kd = 15 ∧ ix = x) → κ1 kd ix = κ kd ix := fun kd ix a b c => by
        show kf (kf (kf κ 14 x (fun _ => 0)) 15 x (fun _ => 0)) 13 x (fun _ => 0) kd ix = _
        rw [kf_n a, kf_n c, kf_n b]
      have q13 : ∀ a q, D.2.1 a = some q → ¬ (q.1 = 13 ∧ q.2 = x) := fun a q hq t => dd 13 (by omega) a (by rw [hq, ← t.1, ← t.2])
      have WD' : WD D' := by rw [← hDp]; exact dN_WD (dN_WD (dN_WD hD (dd 14 (by omega))) dB) dC
      have a13 : D'.1 13 x = z := by rw [← hDp]; exact dN_e _ _ _ _
      have a14 : D'.1 14 x = z + 1 := by
        rw [← hDp]
        unfold dT
        rw [dN_n (by omega), dN_n (by omega)]
        exact dN_e _ _ _ _
      have a15 : D'.1 15 x = z + 1 + 1 := by
        rw [← hDp]
        unfold dT
        rw [dN_n (by omega)]
        exact dN_e _ _ _ _
      have i13 : kI D' 13 x := by rw [← hDp]; exact dN_new _ _ _ _
      have i15 : kI D' 15 x := (x3'.1 _ _ (dN_new _ _ _ _)).2
      have i14 : kI D' 14 x := ((x2'.tr x3').1 _ _ (dN_new _ _ _ _)).2
      have X : ∀ {μ : kS} {a b : Nat} {f : Nat → Int32}, a ≠ 9 → a ≠ 10 → a ≠ 22 → a ≠ 1 → kxd μ (kf μ a b f) := fun h9 h10 h22 h1 => kxd_kf h9 h10 h22 (fun t => absurd t h1)
      have H1 : xup (xup (xup (rn D κ) (z + 1) (inA 2 (fun _ => 0))) (z + 1 + 1) (inA 2 (fun _ => 0))) z (.inr (6, [.ref (z + 1), .ref (z + 1 + 1), .int 0])) = rn D' κ1 := by
        have h1 : xup (rn D κ) (z + 1) (inA 2 (fun _ => 0)) = rn (dN D (z + 1) 14 x) (kf κ 14 x (fun _ => 0)) := rn_new (dd 14 (by omega)) (by simp only [kcl, kf_e]) (fun _ _ t => kf_n t) (X (by decide) (by decide) (by decide) (by decide)) (fun a q hq hh => by
          have r := rfs_14 hh
          exact q13 a q hq ⟨r.1, r.2⟩)
        have h2 : xup (rn (dN D (z + 1) 14 x) (kf κ 14 x (fun _ => 0))) (z + 1 + 1) (inA 2 (fun _ => 0)) = rn (dN (dN D (z + 1) 14 x) (z + 1 + 1) 15 x) (kf (kf κ 14 x (fun _ => 0)) 15 x (fun _ => 0)) := rn_new dB (by simp only [kcl, kf_e]) (fun _ _ t => kf_n t) (X (by decide) (by decide) (by decide) (by decide)) (fun a q hq hh => by
          have r := rfs_15 hh
          by_cases ha : a = z + 1
          · rw [ha, dN_Ie] at hq
            cases hq
            omega
          · rw [dN_In ha] at hq
            exact q13 a q hq ⟨r.1, r.2⟩)
        have h3 : xup (rn (dN (dN D (z + 1) 14 x) (z + 1 + 1) 15 x) (kf (kf κ 14 x (fun _ => 0)) 15 x (fun _ => 0))) z (.inr (6, [.ref (z + 1), .ref (z + 1 + 1), .int 0])) = rn (dT D z 14 15 13 x) κ1 := rn_new dC (by
          show kcl (dT D z 14 15 13 x) κ1 13 x = _
          have e : κ1 13 x = fun _ => 0 := kf_e _ _ _ _
          rw [hDp]
          simp only [kcl, e, a14, a15]) (fun _ _ t => kf_n t) (X (by decide) (by decide) (by decide) (by decide)) (fun a q hq hh => by
          obtain ⟨r1, pp, r2, r3⟩ := rfs_13 hh
          rw [kf_k (by decide), kf_k (by decide)] at r2
          have ql : lq κ q.1 q.2 ∨ q.1 = 14 ∨ q.1 = 15 := by
            by_cases ha : a = z + 1 + 1
            · rw [ha, dN_Ie] at hq; cases hq; exact Or.inr (Or.inr rfl)
            · rw [dN_In ha] at hq
              by_cases ha2 : a = z + 1
              · rw [ha2, dN_Ie] at hq; cases hq; exact Or.inr (Or.inl rfl)
              · rw [dN_In ha2] at hq; exact Or.inl (hF.2.1 a q hq)
          rcases ql with l | l | l
          · have l1 := l.2.2.1 (by omega)
            rw [h.2.1.1] at l1
            have l3 : q.2 < 3 := by have := h.2.2.1.2; omega
            have yq2 := (h.2.1.2 q.2 l1).1.1
            rw [yq2] at r2
            have := (h.2.2.2.1 q.2 l3).1.2
            have e : q.2 = m := by omega
            rw [e, hcn] at r2
            omega
          · omega
          · omega)
        rw [h1, h2, h3, hDp]
      -- the array and the number of places
      have i11 := xD.1 11 m lm.2.1
      have i10 := xD.1 10 m lm.1
      have e10 : κ2 10 m = fu (κ 10 m) 2 (J (c + 1)) := by
        show ku κ1 10 m 2 (J (c + 1)) 10 m = _
        rw [ku_e, n1 10 m (by omega) (by omega) (by omega)]
      have n2 : ∀ kd ix, ¬ (kd = 10 ∧ ix = m) → κ2 kd ix = κ1 kd ix := fun kd ix hn => ku_n hn
      have N2 : N (κ2 10 m 2) = c + 1 := by rw [e10, fu_e]; exact J_nat (by omega)
      have r11 : rn D' κ1 (D.1 11 m) = some (rfA 4 6 (fun p => if p < c then some (D'.1 13 (6 * m + p)) else none)) := by
        rw [← i11.1, rn_at i11.2]
        simp only [kcl]
        rw [n1 10 m (by omega) (by omega) (by omega), nk]
      have kcz : kc (rn D' κ1) z 6 = true := by
        have := (rd13 (κ := κ1) i13).1
        rw [a13] at this
        exact this
      have pqe := pq_of (kd := 4) (ci := 6) (v := z) r11 hc (by decide) kcz
      have r10 : rn D' κ1 (D.1 10 m) = some (.inr (5, [.ref (D'.1 11 m), .ref (D'.1 12 m), .int (J c), .int (κ 10 m 3)])) := by
        rw [← i10.1, rn_at i10.2]
        simp only [kcl]
        rw [n1 10 m (by omega) (by omega) (by omega), y2]
      have ne1011 : D.1 10 m ≠ D.1 11 m := kI_ne lm.1 lm.2.1 (by omega)
      have H2 : xup (xup (rn D' κ1) (D.1 11 m) (rfA 4 6 (va_up (fun p => if p < c then some (D'.1 13 (6 * m + p)) else none) c (some z)))) (D.1 10 m) (.inr (5, [.ref (D'.1 11 m), .ref (D'.1 12 m), .int (J (c + 1)), .int (κ 10 m 3)])) = rn D' κ2 := by
        rw [← i11.1, ← i10.1]
        refine rn_put2 WD' i11.2 i10.2 (by omega) ?_ ?_ (fun _ k i _ a b => ?_)
        · simp only [kcl, N2]
          congr 2
          funext p
          unfold va_up
          dsimp only
          by_cases gp : p = c
          · rw [if_pos (by omega), if_pos gp, gp, hx, a13]
          · rw [if_neg gp]
            by_cases g2 : p < c
            · rw [if_pos (by omega), if_pos g2]
            · rw [if_neg (by omega), if_neg g2]
        · simp only [kcl, e10, fu_e]
          rw [fu_n (by decide)]
        · refine kcl_cg' (n2 k i b) (fun _ => by rw [n2 1 0 (by omega)]) (fun _ => by funext w; exact n2 9 w (by omega)) (fun t => ?_) (fun t => ?_) (fun _ => n2 22 i (by omega))
          · by_cases gi' : i = m
            · exact absurd ⟨t, gi'⟩ a
            · rw [n2 10 i (by omega)]
          · by_cases gi' : i = m
            · rw [gi', e10, fu_n (by decide), n1 10 m (by omega) (by omega) (by omega)]
            · rw [n2 10 i (by omega)]
      -- the reference
      let σ' : mS := su (su (su σ 0 0 0) 4 x 0) 2 m (J (c + 1))
      have sn : ∀ s b, s ≠ 0 → s ≠ 4 → s ≠ 2 → σ' s b = σ s b := fun s b h0 h4 h2 => by
        show su (su (su σ 0 0 0) 4 x 0) 2 m (J (c + 1)) s b = _
        rw [su_n h2, su_n h4, su_n h0]
      have s2' : ∀ b, σ' 2 b = if b = m then J (c + 1) else σ 2 b := fun b => by
        show su (su (su σ 0 0 0) 4 x 0) 2 m (J (c + 1)) 2 b = _
        by_cases q : b = m
        · rw [q, su_e, if_pos rfl]
        · rw [if_neg q]; simp [su, q]
      have s4' : ∀ b, σ' 4 b = if b = x then 0 else σ 4 b := fun b => by
        show su (su (su σ 0 0 0) 4 x 0) 2 m (J (c + 1)) 4 b = _
        rw [su_n (by decide)]
        by_cases q : b = x
        · rw [q, su_e, if_pos rfl]
        · rw [if_neg q]; simp [su, q]
      have n2' : ∀ b, N (σ' 2 b) = if b = m then c + 1 else N (σ 2 b) := fun b => by
        rw [s2']
        by_cases q : b = m
        · rw [if_pos q, if_pos q]; exact J_nat (by omega)
        · rw [if_neg q, if_neg q]
      have hx18 : x < 18 := by omega
      have WY' : WY σ' := by
        obtain ⟨w1, w2, w3, w4, w5, w6⟩ := h.2.2
        refine ⟨by rw [sn 1 0 (by decide) (by decide) (by decide)]; exact w1, fun b hb => ?_, fun b hb => ?_, fun b hb => by rw [sn 5 b (by decide) (by decide) (by decide)]; exact w4 b hb, fun b hb => by rw [sn 7 b (by decide) (by decide) (by decide), sn 8 b (by decide) (by decide) (by decide), sn 11 b (by decide) (by decide) (by decide)]; exact w5 b hb, fun b hb => by rw [sn 12 b (by decide) (by decide) (by decide), sn 13 b (by decide) (by decide) (by decide)]; exact w6 b hb⟩
        · rw [s2', sn 3 b (by decide) (by decide) (by decide)]
          by_cases q : b = m
          · rw [if_pos q]; exact ⟨sml_J (by omega) (by decide), (w2 b hb).2⟩
          · rw [if_neg q]; exact w2 b hb
        · rw [s4']
          by_cases q : b = x
          · rw [if_pos q]; exact sml_J (k := 0) (by omega) (by decide)
          · rw [if_neg q]; exact w3 b hb
      have WV' : WV σ' := by
        refine ⟨fun b l hb hl => ?_, fun b t hb ht => ?_⟩
        · rw [s4'] at hl
          by_cases q : b = x
          · rw [if_pos q] at hl
            exact absurd hl (by show ¬ l < N 0; exact Nat.not_lt_zero l)
          · rw [if_neg q] at hl
            rw [sn 5 _ (by decide) (by decide) (by decide), sn 6 _ (by decide) (by decide) (by decide)]
            exact hV.1 b l hb hl
        · rw [sn 11 b (by decide) (by decide) (by decide)] at ht
          rw [sn 12 _ (by decide) (by decide) (by decide), sn 13 _ (by decide) (by decide) (by decide), sn 14 _ (by decide) (by decide) (by decide)]
          exact hV.2 b t hb ht
      have WT' : WT σ' := fun a w ha hw => by
        rw [sn 1 0 (by decide) (by decide) (by decide)] at ha
        rw [sn 3 a (by decide) (by decide) (by decide)] at hw
        rw [sn 8 _ (by decide) (by decide) (by decide), n2']
        have := hT a w ha hw
        by_cases q : a = m
        · rw [if_pos q]; rw [q, hcn] at this; rw [q]; omega
        · rw [if_neg q]; exact this
      have kk : ∀ kd ix, ¬ (kd = 13 ∧ ix = x) → ¬ (kd = 14 ∧ ix = x) → ¬ (kd = 15 ∧ ix = x) → ¬ (kd = 10 ∧ ix = m) → κ2 kd ix = κ kd ix := fun kd ix a b c d => (n2 kd ix d).trans (n1 kd ix a b c)
      have e13 : κ2 13 x 2 = 0 := by
        rw [n2 13 x (by omega)]
        show kf (kf (kf κ 14 x (fun _ => 0)) 15 x (fun _ => 0)) 13 x (fun _ => 0) 13 x 2 = _
        rw [kf_e]
      have YR' : YR κ2 σ' := by
        refine ⟨by rw [kk 1 0 (by omega) (by omega) (by omega) (by omega), sn 1 0 (by decide) (by decide) (by decide)]; exact h.2.1.1, fun m' hm' => ?_⟩
        rw [sn 1 0 (by decide) (by decide) (by decide)] at hm'
        obtain ⟨ya, yb, yc⟩ := h.2.1.2 m' hm'
        have hb3 : m' < 3 := by have := h.2.2.1.2; omega
        refine ⟨?_, fun p' hp' => ?_, fun w hw => ?_⟩
        · rw [s2', sn 3 m' (by decide) (by decide) (by decide)]
          by_cases q : m' = m
          · rw [q, e10, fu_e, fu_n (by decide), if_pos rfl]; exact ⟨rfl, by rw [← q]; exact ya.2⟩
          · rw [kk 10 m' (by omega) (by omega) (by omega) (by omega), if_neg q]; exact ya
        · rw [n2'] at hp'
          by_cases q : 6 * m' + p' = x
          · rw [q, s4', if_pos rfl]
            exact ⟨e13, fun l hl => absurd hl (Nat.not_lt_zero l)⟩
          · have hp2 : p' < N (σ 2 m') := by
              by_cases qm : m' = m
              · rw [if_pos qm] at hp'; rw [qm, hcn]; omega
              · rw [if_neg qm] at hp'; exact hp'
            rw [kk 13 _ (by omega) (by omega) (by omega) (by omega), kk 14 _ (by omega) (by omega) (by omega) (by omega), kk 15 _ (by omega) (by omega) (by omega) (by omega), s4', if_neg q]
            refine ⟨(yb p' hp2).1, fun l hl => ?_⟩
            rw [sn 5 _ (by decide) (by decide) (by decide), sn 6 _ (by decide) (by decide) (by decide)]
            exact (yb p' hp2).2 l hl
        · rw [sn 3 m' (by decide) (by decide) (by decide)] at hw
          rw [kk 16 _ (by omega) (by omega) (by omega) (by omega), kk 17 _ (by omega) (by omega) (by omega) (by omega), kk 18 _ (by omega) (by omega) (by omega) (by omega), sn 7 _ (by decide) (by decide) (by decide), sn 8 _ (by decide) (by decide) (by decide), sn 9 _ (by decide) (by decide) (by decide), sn 10 _ (by decide) (by decide) (by decide), sn 11 _ (by decide) (by decide) (by decide)]
          refine ⟨(yc w hw).1, fun t ht => ?_⟩
          rw [sn 12 _ (by decide) (by decide) (by decide), sn 13 _ (by decide) (by decide) (by decide), sn 14 _ (by decide) (by decide) (by decide)]
          exact (yc w hw).2 t ht
      have k9 : κ2 9 = κ 9 := by funext w; exact kk 9 w (by omega) (by omega) (by omega) (by omega)
      have k22 : ∀ d, κ2 22 d = κ 22 d := fun d => kk 22 d (by omega) (by omega) (by omega) (by omega)
      have k3 : κ2 3 0 0 = κ 3 0 0 := by rw [kk 3 0 (by omega) (by omega) (by omega) (by omega)]
      have k11 : κ2 1 0 = κ 1 0 := kk 1 0 (by omega) (by omega) (by omega) (by omega)
      have LV' : LV D' κ2 := by
        refine ⟨WD', fun kd h h6 h7 => (xD.1 _ _ (‹YW D κ σ›.1.2.1 kd h h6 h7)).2, fun i hi => ?_, fun m' hm' => ?_, fun j hj => ?_, fun d hd h0 => ?_⟩
        · rw [k3] at hi
          exact ⟨(xD.1 _ _ (h.1.2.2.1 i hi).1).2, (xD.1 _ _ (h.1.2.2.1 i hi).2).2⟩
        · rw [k11] at hm'
          have l := h.1.2.2.2.1 m' hm'
          refine ⟨(xD.1 _ _ l.1).2, (xD.1 _ _ l.2.1).2, (xD.1 _ _ l.2.2.1).2, fun p hp => ?_, fun w hw => ?_⟩
          · by_cases q : 6 * m' + p = x
            · rw [q]; exact ⟨i13, i14, i15⟩
            · have hp2 : p < N (κ 10 m' 2) := by
                by_cases qm : m' = m
                · rw [qm, N2] at hp; rw [qm, nk]; omega
                · rw [kk 10 m' (by omega) (by omega) (by omega) (by omega)] at hp; exact hp
              have lp := l.2.2.2.1 p hp2
              exact ⟨(xD.1 _ _ lp.1).2, (xD.1 _ _ lp.2.1).2, (xD.1 _ _ lp.2.2).2⟩
          · have hw2 : w < N (κ 10 m' 3) := by
              by_cases qm : m' = m
              · rw [qm, e10, fu_n (by decide)] at hw; rw [qm]; exact hw
              · rw [kk 10 m' (by omega) (by omega) (by omega) (by omega)] at hw; exact hw
            have lw := l.2.2.2.2 w hw2
            exact ⟨(xD.1 _ _ lw.1).2, (xD.1 _ _ lw.2.1).2, (xD.1 _ _ lw.2.2).2⟩
        · rw [k3] at hj
          have l := h.1.2.2.2.2.1 j hj
          exact ⟨(xD.1 _ _ l.1).2, (xD.1 _ _ l.2.1).2, (xD.1 _ _ l.2.2).2⟩
        · rw [k9] at h0 ⊢
          rw [k22]
          have l := h.1.2.2.2.2.2 d hd h0
          exact ⟨(xD.1 _ _ l.1).2, (xD.1 _ _ l.2.1).2, fun t => (xD.1 _ _ (l.2.2 t)).2⟩
      have FZ' : FZ D' κ2 (z + 3) := by
        have up : ∀ kd ix, lq κ kd ix → lq κ2 kd ix := fun kd ix l => by
          unfold lq at l ⊢
          rw [k3, k11, k9]
          refine ⟨l.1, l.2.1, l.2.2.1, fun t => ?_, fun t => ?_, l.2.2.2.2.2.1, l.2.2.2.2.2.2⟩
          · have := l.2.2.2.1 t
            refine ⟨this.1, ?_⟩
            by_cases qm : ix / 6 = m
            · rw [qm, N2]; rw [qm, nk] at this; omega
            · rw [kk 10 _ (by omega) (by omega) (by omega) (by omega)]; exact this.2
          · have := l.2.2.2.2.1 t
            refine ⟨this.1, ?_⟩
            by_cases qm : ix / 12 = m
            · rw [qm, e10, fu_n (by decide)]; rw [qm] at this; exact this.2
            · rw [kk 10 _ (by omega) (by omega) (by omega) (by omega)]; exact this.2
        have nw : ∀ kd, kd = 13 ∨ kd = 14 ∨ kd = 15 → lq κ2 kd x := fun kd hk => by
          unfold lq
          rw [k11, xdm.1, xdm.2, N2, h.2.1.1]
          refine ⟨by omega, by omega, by omega, fun _ => ⟨hm, by omega⟩, by omega, by omega, by omega⟩
        refine ⟨fun a ha => ?_, ?_, fun d h0 => ?_⟩
        · rw [← hDp, dT_In (by omega)]; exact hF.1 a (by omega)
        · rw [← hDp]
          exact dT_q (P := lq κ2) (fun a q hq => up _ _ (hF.2.1 a q hq)) (nw 14 (by omega)) (nw 15 (by omega)) (nw 13 (by omega))
        · rw [k9] at h0 ⊢; exact hF.2.2 d h0
      have e1c : J c + 1 = J (c + 1) := J_add c 1
      have subc : J (c + 1) - 1 = J c := J_sub1 c
      refine ⟨J c, D', κ2, σ', 3, 7, ?_, ?_, xD, ⟨LV', YR', WY'⟩, FZ', WV', WT', ⟨fun kd ix a b => kk kd ix (by omega) (by omega) (by omega) (by omega), fun c' _ => by rw [k11]⟩, fun s b hs => sn s b (by omega) (by omega) (by omega), by omega, by omega, fun mz m' h1 h2 => by
        rw [sn 1 0 (by decide) (by decide) (by decide)] at h1
        rw [s2', if_neg (by omega), sn 3 m' (by decide) (by decide) (by decide)]
        exact mz m' h1 h2⟩
      · unfold Ti_place_f
        refine Ev.ob (Ev.cn (a := some (D.1 1 0)) (by simp only [rd0 k0])) (Ev.obs (Ev.pos (rd1 k1).1 (Ev.ob ⟨0, fun n _ => c1 n⟩ (Ev.bn (Ev.oeS ?_)))))
        refine Ev.ob (Ev.cn (a := J c) (by simp only [rd10 lm.1]; rw [y2])) (Ev.pos lt6 ?_)
        refine Ev.ob (Ev.cn (a := some (D.1 11 m)) (by simp only [rd10 lm.1])) (Ev.ob (Ev.cn (a := J c) (by simp only [rd10 lm.1]; rw [y2])) ?_)
        refine Ev.oad (a := 1) (b := 3) (c := 2) (s := 4) (Ev.bn (Ev.ob ⟨0, fun n _ => plinit (show z < z + 1 by omega) n⟩ ?_))
        dsimp only
        rw [H1]
        refine Ev.oad (a := 2) (b := 4) (c := 0) (s := 0) (Ev.obs (Ev.ob (Ev.cn pqe) ?_))
        refine Ev.ob (Ev.cn (a := J c) (by
          rw [gi_ne ne1011]
          unfold gi
          rw [r10]
          rfl)) ?_
        refine Ev.ob (Ev.cn (a := rn D' κ2) ((pf_of (by rw [xup_ne ne1011]; exact r10) (by show 2 < 4; decide)).trans (by rw [e1c]; exact congrArg some H2))) ?_
        refine Ev.ob (Ev.cn (a := J (c + 1)) (by rw [← i10.1]; simp only [rd10 i10.2]; rw [e10, fu_e])) ?_
        rw [subc]
        exact Ev.ret
      · unfold Mo_place_f
        have t2 : su σ 0 0 0 2 m = J c := by rw [su_n (by decide), e2]
        have t2a : ∀ v, su (su σ 0 0 0) 4 x v 2 m = J c := fun v => by rw [su_n (by decide)]; exact t2
        have e6 : (6 : Int32) * J m + J c = J x := by rw [J6, J_mul, J_add, hx]
        have xx : xin (J x) 18 = true := xin_J hx18 (by decide)
        have nx : Int32.toNatClampNeg (J x) = x := J_nat (by omega)
        simp only [obd, bnd, c2, nm, xm, if_true, t2, ne6, if_false, e6, xx, nx, t2a, e1c, su_e, subc]
        exact Ev.neg (by decide) Ev.ret
  · have c1 := machineAt_out h.1 h.mc (y := x1) (by rw [h.2.1.1]; exact hx)
    have c2 := isMachine_out (τ := τ) (σ := su σ 0 0 0) (by rw [su_n (by decide)]; exact h.2.2.1) (y := x1) (by rw [su_n (by decide)]; exact hx)
    refine BO_no h hF hV hT (r := -1) ?_ ?_
    · unfold Ti_place_f
      simp only [obd, bnd, oel, rd0 k0, rd1 k1, if_true, c1]
      exact Ev.ret
    · unfold Mo_place_f
      simp only [obd, bnd, c2, if_true]
      exact Ev.ret
end BP
