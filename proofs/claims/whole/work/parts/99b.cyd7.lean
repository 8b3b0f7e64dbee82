/-! machine: class and reference -/
theorem mainit {h : xH} {o z : Nat} (ho : o < z) (n : Nat) : Ma_init_f n o (xup h o (.inr (5, [.null, .null, .int 0, .int 0]))) z = some (0, xup (xup (xup h z (rfA 4 6 (fun _ => none))) (z + 1) (rfA 5 12 (fun _ => none))) o (.inr (5, [.ref z, .ref (z + 1), .int 0, .int 0])), 2, 18) := by
  unfold Ma_init_f
  simp only [obd, bnd]
  rw [xup_comm _ _ _ (show o ≠ z by omega)]
  have p1 : pf (xup (xup h z (.inl (4, 6, .inr (.inr (.inr (.inr (fun _ => none))))))) o (.inr (5, [.null, .null, .int 0, .int 0]))) o 5 0 (.ref z) = some (xup (xup h z (.inl (4, 6, .inr (.inr (.inr (.inr (fun _ => none))))))) o (.inr (5, [.ref z, .null, .int 0, .int 0]))) := pf_x (by show 0 < 4; decide)
  rw [p1]
  dsimp only
  rw [xup_comm _ _ _ (show o ≠ z + 1 by omega)]
  have p2 : pf (xup (xup (xup h z (.inl (4, 6, .inr (.inr (.inr (.inr (fun _ => none))))))) (z + 1) (.inl (5, 12, .inr (.inr (.inr (.inr (fun _ => none))))))) o (.inr (5, [.ref z, .null, .int 0, .int 0]))) o 5 1 (.ref (z + 1)) = some (xup (xup (xup h z (.inl (4, 6, .inr (.inr (.inr (.inr (fun _ => none))))))) (z + 1) (.inl (5, 12, .inr (.inr (.inr (.inr (fun _ => none))))))) o (.inr (5, [.ref z, .ref (z + 1), .int 0, .int 0]))) := pf_x (by show 1 < 4; decide)
  rw [p2]
  rfl
section BM
variable {D : kD} {κ : kS} {σ : mS} {τ : mL} {z : Nat}
theorem machine_y (h : YW D κ σ) (hF : FZ D κ z) (hV : WV σ) (hT : WT σ) (mz : MZ σ) : BO D κ σ τ z (fun n => Ti_machine_f n (D.1 0 0) (rn D κ) z) (fun n => Mo_machine_f n σ τ) := by
  have k0 := h.1.2.1 0 (by decide) (by decide) (by decide)
  have k1 := h.1.k1
  have kk2 := h.1.2.1 2 (by decide) (by decide) (by decide)
  have hD := h.1.1
  have A0 : gq (rn D κ) (D.1 0 0) 4 0 = some (some (D.1 1 0)) := by simp only [rd0 k0]
  have s1 := h.2.2.1
  by_cases g : N (σ 1 0) = 3
  · have e1 : σ 1 0 = 3 := by rw [s1.1, g]; rfl
    refine BO_no h hF hV hT (r := -2) ?_ ?_
    · unfold Ti_machine_f
      simp only [obd, A0, rd1 k1, h.2.1.1, e1]
      exact Ev.neg (by decide) Ev.ret
    · unfold Mo_machine_f
      simp only [bnd]
      refine Ev.pos ?_ Ev.ret
      rw [su_n (by decide)]; exact e1
  · have hm : N (σ 1 0) < 3 := by have := s1.2; omega
    have e1 : σ 1 0 = J (N (σ 1 0)) := s1.1
    generalize hmn : N (σ 1 0) = m at hm e1 g
    have y1 : κ 1 0 1 = J m := h.2.1.1.trans e1
    have nk : N (κ 1 0 1) = m := by rw [y1]; exact J_nat (by omega)
    have lt3 : J m < 3 := by rw [J3, J_lt (by omega) (by omega)]; omega
    have ne3 : ¬ (J m = 3) := by rw [J3, J_eq (by omega) (by omega)]; omega
    have dd : ∀ kd, kd = 10 ∨ kd = 11 ∨ kd = 12 → dead D kd m := fun kd hk a e => by
      have l := (hF.2.1 a _ e).2.2.1 hk
      dsimp only at l
      rw [nk] at l
      omega
    obtain ⟨x1', x2', x3', dB, dC⟩ := dT_Dx (z := z) (kA := 11) (kB := 12) (kC := 10) (x := m) hF.1 (dd 11 (by omega)) (dd 12 (by omega)) (dd 10 (by omega)) (by decide) (by decide) (by decide)
    have xD := (x1'.tr x2').tr x3'
    generalize hDp : dT D z 11 12 10 m = D' at x3' xD
    let κ0 : kS := kf κ 10 m (fun _ => 0)
    have n0 : ∀ kd ix, ¬ (kd = 10 ∧ ix = m) → κ0 kd ix = κ kd ix := fun kd ix a => kf_n a
    have e0 : κ0 10 m = fun _ => 0 := kf_e _ _ _ _
    have q10 : ∀ a q, D.2.1 a = some q → q.1 = 10 ∨ q.1 = 11 ∨ q.1 = 12 → q.2 ≠ m := fun a q hq hk t => dd q.1 hk a (by rw [hq, ← t])
    have R0 : rn D κ0 = rn D κ := rn_eq (fun a q hq => kcl_cg' (n0 _ _ (fun t => q10 a q hq (by omega) t.2)) (fun _ => by rw [n0 1 0 (by omega)]) (fun _ => by funext w; exact n0 9 w (by omega)) (fun t => by rw [n0 10 q.2 (fun tt => q10 a q hq (by omega) tt.2)]) (fun t => by rw [n0 10 q.2 (fun tt => q10 a q hq (by omega) tt.2)]) (fun _ => n0 22 _ (by omega)))
    have WD' : WD D' := by rw [← hDp]; exact dN_WD (dN_WD (dN_WD hD (dd 11 (by omega))) dB) dC
    have a10 : D'.1 10 m = z := by rw [← hDp]; exact dN_e _ _ _ _
    have a11 : D'.1 11 m = z + 1 := by
      rw [← hDp]
      unfold dT
      rw [dN_n (by omega), dN_n (by omega)]
      exact dN_e _ _ _ _
    have a12 : D'.1 12 m = z + 1 + 1 := by
      rw [← hDp]
      unfold dT
      rw [dN_n (by omega)]
      exact dN_e _ _ _ _
    have i10 : kI D' 10 m := by rw [← hDp]; exact dN_new _ _ _ _
    have i12 : kI D' 12 m := (x3'.1 _ _ (dN_new _ _ _ _)).2
    have i11 : kI D' 11 m := ((x2'.tr x3').1 _ _ (dN_new _ _ _ _)).2
    have H1 : xup (xup (xup (rn D κ) (z + 1) (rfA 4 6 (fun _ => none))) (z + 1 + 1) (rfA 5 12 (fun _ => none))) z (.inr (5, [.ref (z + 1), .ref (z + 1 + 1), .int 0, .int 0])) = rn D' κ0 := by
      rw [← R0]
      have h1 : xup (rn D κ0) (z + 1) (rfA 4 6 (fun _ => none)) = rn (dN D (z + 1) 11 m) κ0 := rn_new (dd 11 (by omega)) (by
        simp only [kcl, e0]
        rfl) (fun _ _ _ => rfl) (kxd.rf κ0) (fun a q hq hh => by
        have r := rfs_11 hh
        exact q10 a q hq (by omega) r.2)
      have h2 : xup (rn (dN D (z + 1) 11 m) κ0) (z + 1 + 1) (rfA 5 12 (fun _ => none)) = rn (dN (dN D (z + 1) 11 m) (z + 1 + 1) 12 m) κ0 := rn_new dB (by
        simp only [kcl, e0]
        rfl) (fun _ _ _ => rfl) (kxd.rf κ0) (fun a q hq hh => by
        have r := rfs_12 hh
        by_cases ha : a = z + 1
        · rw [ha, dN_Ie] at hq
          cases hq
          omega
        · rw [dN_In ha] at hq
          exact q10 a q hq (by omega) r.2)
      have h3 : xup (rn (dN (dN D (z + 1) 11 m) (z + 1 + 1) 12 m) κ0) z (.inr (5, [.ref (z + 1), .ref (z + 1 + 1), .int 0, .int 0])) = rn (dT D z 11 12 10 m) κ0 := rn_new dC (by
        show kcl (dT D z 11 12 10 m) κ0 10 m = _
        rw [hDp]
        simp only [kcl, e0, a11, a12]) (fun _ _ _ => rfl) (kxd.rf κ0) (fun a q hq hh => by
        have r := (rfs_10 hh).2
        rw [n0 1 0 (by omega), nk] at r
        omega)
      rw [h1, h2, h3, hDp]
    let κ2 : kS := ku κ0 1 0 1 (J (m + 1))
    have j1 := xD.1 1 0 k1
    have j2 := xD.1 2 0 kk2
    have j0 := xD.1 0 0 k0
    have e10 : κ2 1 0 = fu (κ 1 0) 1 (J (m + 1)) := by
      show ku κ0 1 0 1 (J (m + 1)) 1 0 = _
      rw [ku_e, n0 1 0 (by omega)]
    have n2 : ∀ kd ix, ¬ (kd = 1 ∧ ix = 0) → κ2 kd ix = κ0 kd ix := fun kd ix hn => ku_n hn
    have N2 : N (κ2 1 0 1) = m + 1 := by rw [e10, fu_e]; exact J_nat (by omega)
    have r2 : rn D' κ0 (D.1 2 0) = some (rfA 6 3 (fun p => if p < m then some (D'.1 10 p) else none)) := by
      rw [← j2.1, rn_at j2.2]
      simp only [kcl]
      rw [n0 1 0 (by omega), nk]
    have kcz : kc (rn D' κ0) z 5 = true := by
      have := (rd10 (κ := κ0) i10).1
      rw [a10] at this
      exact this
    have pqe := pq_of (kd := 6) (ci := 5) (v := z) r2 hm (by decide) kcz
    have r1 : rn D' κ0 (D.1 1 0) = some (.inr (3, [.ref (D'.1 2 0), .int (J m), .ref (D'.1 3 0), .int (κ 1 0 3), .int (κ 1 0 4), .int (κ 1 0 5), .int (κ 1 0 6), .int (κ 1 0 7), .int (κ 1 0 8), .ref (D'.1 4 0), .ref (D'.1 5 0), .ref (D'.1 6 0)])) := by
      rw [← j1.1, rn_at j1.2]
      simp only [kcl]
      rw [n0 1 0 (by omega), y1]
    have ne12 : D.1 1 0 ≠ D.1 2 0 := kI_ne k1 kk2 (by omega)
    have ne02 : D.1 0 0 ≠ D.1 2 0 := kI_ne k0 kk2 (by omega)
    have H2 : xup (xup (rn D' κ0) (D.1 2 0) (rfA 6 3 (va_up (fun p => if p < m then some (D'.1 10 p) else none) m (some z)))) (D.1 1 0) (.inr (3, [.ref (D'.1 2 0), .int (J (m + 1)), .ref (D'.1 3 0), .int (κ 1 0 3), .int (κ 1 0 4), .int (κ 1 0 5), .int (κ 1 0 6), .int (κ 1 0 7), .int (κ 1 0 8), .ref (D'.1 4 0), .ref (D'.1 5 0), .ref (D'.1 6 0)])) = rn D' κ2 := by
      rw [← j2.1, ← j1.1]
      refine rn_put2 WD' j2.2 j1.2 (by omega) ?_ ?_ (fun a0 k i hi a b => ?_)
      · simp only [kcl, N2]
        congr 2
        funext p
        unfold va_up
        dsimp only
        by_cases gp : p = m
        · rw [if_pos (by omega), if_pos gp, gp, a10]
        · rw [if_neg gp]
          by_cases g2 : p < m
          · rw [if_pos (by omega), if_pos g2]
          · rw [if_neg (by omega), if_neg g2]
      · simp only [kcl, e10, fu_e]
        rw [fu_n (by decide), fu_n (by decide), fu_n (by decide), fu_n (by decide), fu_n (by decide), fu_n (by decide)]
      · by_cases k2 : k = 2
        · -- another number of that kind: nothing there
          have l2 : lq κ k i ∨ k = 11 ∨ k = 12 ∨ k = 10 := by
            rw [← hDp] at hi
            unfold dT at hi
            by_cases b1 : a0 = z
            · rw [b1, dN_Ie] at hi; cases hi; omega
            · rw [dN_In b1] at hi
              by_cases b2 : a0 = z + 1 + 1
              · rw [b2, dN_Ie] at hi; cases hi; omega
              · rw [dN_In b2] at hi
                by_cases b3 : a0 = z + 1
                · rw [b3, dN_Ie] at hi; cases hi; omega
                · rw [dN_In b3] at hi; exact Or.inl (hF.2.1 a0 _ hi)
          rcases l2 with l | l
          · exact absurd ⟨k2, l.2.2.2.2.2.2 (Or.inl k2)⟩ a
          · omega
        · exact kcl_cg' (n2 k i b) (fun t => absurd t k2) (fun _ => by funext w; exact n2 9 w (by omega)) (fun _ => by rw [n2 10 i (by omega)]) (fun _ => by rw [n2 10 i (by omega)]) (fun _ => n2 22 i (by omega))
    let σ' : mS := su (su σ 0 0 0) 1 0 (J (m + 1))
    have sn : ∀ s b, s ≠ 0 → s ≠ 1 → σ' s b = σ s b := fun s b h0 h1 => by
      show su (su σ 0 0 0) 1 0 (J (m + 1)) s b = _
      rw [su_n h1, su_n h0]
    have s1' : σ' 1 0 = J (m + 1) := su_e _ _ _ _
    have N1' : N (σ' 1 0) = m + 1 := by rw [s1']; exact J_nat (by omega)
    have mzm := mz m (by omega) hm
    have WY' : WY σ' := by
      obtain ⟨w1, w2, w3, w4, w5, w6⟩ := h.2.2
      exact ⟨by rw [s1']; exact sml_J (by omega) (by decide), fun b hb => by rw [sn 2 b (by decide) (by decide), sn 3 b (by decide) (by decide)]; exact w2 b hb, fun b hb => by rw [sn 4 b (by decide) (by decide)]; exact w3 b hb, fun b hb => by rw [sn 5 b (by decide) (by decide)]; exact w4 b hb, fun b hb => by rw [sn 7 b (by decide) (by decide), sn 8 b (by decide) (by decide), sn 11 b (by decide) (by decide)]; exact w5 b hb, fun b hb => by rw [sn 12 b (by decide) (by decide), sn 13 b (by decide) (by decide)]; exact w6 b hb⟩
    have WV' : WV σ' := by
      refine ⟨fun b l hb hl => ?_, fun b t hb ht => ?_⟩
      · rw [sn 4 b (by decide) (by decide)] at hl
        rw [sn 5 _ (by decide) (by decide), sn 6 _ (by decide) (by decide)]
        exact hV.1 b l hb hl
      · rw [sn 11 b (by decide) (by decide)] at ht
        rw [sn 12 _ (by decide) (by decide), sn 13 _ (by decide) (by decide), sn 14 _ (by decide) (by decide)]
        exact hV.2 b t hb ht
    have WT' : WT σ' := fun a w ha hw => by
      rw [N1'] at ha
      rw [sn 3 a (by decide) (by decide)] at hw
      rw [sn 8 _ (by decide) (by decide), sn 2 a (by decide) (by decide)]
      by_cases q : a = m
      · rw [q, mzm.2] at hw
        exact absurd hw (Nat.not_lt_zero w)
      · exact hT a w (by omega) hw
    have kk : ∀ kd ix, ¬ (kd = 10 ∧ ix = m) → ¬ (kd = 1 ∧ ix = 0) → κ2 kd ix = κ kd ix := fun kd ix a b => (n2 kd ix b).trans (n0 kd ix a)
    have e210 : κ2 10 m = fun _ => 0 := (n2 10 m (by omega)).trans e0
    have YR' : YR κ2 σ' := by
      refine ⟨by rw [e10, fu_e, s1'], fun m' hm' => ?_⟩
      rw [N1'] at hm'
      by_cases q : m' = m
      · rw [q, e210, sn 2 m (by decide) (by decide), sn 3 m (by decide) (by decide), mzm.1, mzm.2]
        exact ⟨⟨rfl, rfl⟩, fun p hp => absurd hp (Nat.not_lt_zero p), fun w hw => absurd hw (Nat.not_lt_zero w)⟩
      · obtain ⟨ya, yb, yc⟩ := h.2.1.2 m' (by omega)
        rw [sn 2 m' (by decide) (by decide), sn 3 m' (by decide) (by decide), kk 10 m' (by omega) (by omega)]
        refine ⟨ya, fun p hp => ?_, fun w hw => ?_⟩
        · rw [kk 13 _ (by omega) (by omega), kk 14 _ (by omega) (by omega), kk 15 _ (by omega) (by omega), sn 4 _ (by decide) (by decide)]
          refine ⟨(yb p hp).1, fun l hl => ?_⟩
          rw [sn 5 _ (by decide) (by decide), sn 6 _ (by decide) (by decide)]
          exact (yb p hp).2 l hl
        · rw [kk 16 _ (by omega) (by omega), kk 17 _ (by omega) (by omega), kk 18 _ (by omega) (by omega), sn 7 _ (by decide) (by decide), sn 8 _ (by decide) (by decide), sn 9 _ (by decide) (by decide), sn 10 _ (by decide) (by decide), sn 11 _ (by decide) (by decide)]
          refine ⟨(yc w hw).1, fun t ht => ?_⟩
          rw [sn 12 _ (by decide) (by decide), sn 13 _ (by decide) (by decide), sn 14 _ (by decide) (by decide)]
          exact (yc w hw).2 t ht
    have k9 : κ2 9 = κ 9 := by funext w; exact kk 9 w (by omega) (by omega)
    have k22 : ∀ d, κ2 22 d = κ 22 d := fun d => kk 22 d (by omega) (by omega)
    have k3 : κ2 3 0 0 = κ 3 0 0 := by rw [kk 3 0 (by omega) (by omega)]
    have LV' : LV D' κ2 := by
      refine ⟨WD', fun kd hh h6 h7 => (xD.1 _ _ (h.1.2.1 kd hh h6 h7)).2, fun i hi => ?_, fun m' hm' => ?_, fun j hj => ?_, fun d hd h0 => ?_⟩
      · rw [k3] at hi
        exact ⟨(xD.1 _ _ (h.1.2.2.1 i hi).1).2, (xD.1 _ _ (h.1.2.2.1 i hi).2).2⟩
      · rw [N2] at hm'
        by_cases q : m' = m
        · rw [q, e210]
          exact ⟨i10, i11, i12, fun p hp => absurd hp (Nat.not_lt_zero p), fun w hw => absurd hw (Nat.not_lt_zero w)⟩
        · have l := h.1.2.2.2.1 m' (by omega)
          rw [kk 10 m' (by omega) (by omega)]
          refine ⟨(xD.1 _ _ l.1).2, (xD.1 _ _ l.2.1).2, (xD.1 _ _ l.2.2.1).2, fun p hp => ?_, fun w hw => ?_⟩
          · have lp := l.2.2.2.1 p hp
            exact ⟨(xD.1 _ _ lp.1).2, (xD.1 _ _ lp.2.1).2, (xD.1 _ _ lp.2.2).2⟩
          · have lw := l.2.2.2.2 w hw
            exact ⟨(xD.1 _ _ lw.1).2, (xD.1 _ _ lw.2.1).2, (xD.1 _ _ lw.2.2).2⟩
      · rw [k3] at hj
        have l := h.1.2.2.2.2.1 j hj
        exact ⟨(xD.1 _ _ l.1).2, (xD.1 _ _ l.2.1).2, (xD.1 _ _ l.2.2).2⟩
      · rw [k9] at h0 ⊢
        rw [k22]
        have l := h.1.2.2.2.2.2 d hd h0
        exact ⟨(xD.1 _ _ l.1).2, (xD.1 _ _ l.2.1).2, fun t => (xD.1 _ _ (l.2.2 t)).2⟩
    have FZ' : FZ D' κ2 (z + 3) := by
      have up : ∀ kd ix, lq κ kd ix → lq κ2 kd ix := fun kd ix l => by
        unfold lq at l ⊢
        rw [k3, N2, k9]
        rw [nk] at l
        refine ⟨l.1, l.2.1, fun t => by have := l.2.2.1 t; omega, fun t => ?_, fun t => ?_, l.2.2.2.2.2.1, l.2.2.2.2.2.2⟩
        · have := l.2.2.2.1 t
          rw [kk 10 _ (by omega) (by omega)]
          omega
        · have := l.2.2.2.2.1 t
          rw [kk 10 _ (by omega) (by omega)]
          omega
      have nw : ∀ kd, kd = 10 ∨ kd = 11 ∨ kd = 12 → lq κ2 kd m := fun kd hk => by
        unfold lq
        rw [N2]
        refine ⟨by omega, by omega, by omega, by omega, by omega, by omega, by omega⟩
      refine ⟨fun a ha => ?_, ?_, fun d h0 => ?_⟩
      · rw [← hDp, dT_In (by omega)]; exact hF.1 a (by omega)
      · rw [← hDp]
        exact dT_q (P := lq κ2) (fun a q hq => up _ _ (hF.2.1 a q hq)) (nw 11 (by omega)) (nw 12 (by omega)) (nw 10 (by omega))
      · rw [k9] at h0 ⊢; exact hF.2.2 d h0
    have e1c : J m + 1 = J (m + 1) := J_add m 1
    have subc : J (m + 1) - 1 = J m := J_sub1 m
    refine ⟨J m, D', κ2, σ', 3, 22, ?_, ?_, xD, ⟨LV', YR', WY'⟩, FZ', WV', WT', ⟨fun kd ix a b => kk kd ix (by omega) (by omega), fun c' hc' => by rw [e10, fu_n hc']⟩, fun s b hs => sn s b (by omega) (by omega), by omega, by omega, fun _ m' h1 h2 => ?_⟩
    · unfold Ti_machine_f
      refine Ev.ob (Ev.cn A0) (Ev.obs (Ev.ob (Ev.cn (a := J m) (by simp only [rd1 k1]; rw [y1])) (Ev.pos lt3 ?_)))
      refine Ev.ob (Ev.cn A0) (Ev.obs (Ev.ob (Ev.cn (a := some (D.1 2 0)) (by simp only [rd1 k1])) ?_))
      refine Ev.ob (Ev.cn A0) (Ev.obs (Ev.ob (Ev.cn (a := J m) (by simp only [rd1 k1]; rw [y1])) ?_))
      refine Ev.oad (a := 1) (b := 4) (c := 2) (s := 18) (Ev.bn (Ev.ob ⟨0, fun n _ => mainit (show z < z + 1 by omega) n⟩ ?_))
      dsimp only
      rw [H1]
      refine Ev.oad (a := 2) (b := 18) (c := 0) (s := 0) (Ev.obs (Ev.ob (Ev.cn pqe) ?_))
      refine Ev.ob (Ev.cn (a := some (D.1 1 0)) (by rw [gq_ne ne02, ← j0.1, ← j1.1]; simp only [rd0 j0.2])) (Ev.obs ?_)
      refine Ev.ob (Ev.cn (a := J m) (by
        rw [gi_ne ne12]
        unfold gi
        rw [r1]
        rfl)) ?_
      refine Ev.ob (Ev.cn (a := rn D' κ2) ((pf_of (by rw [xup_ne ne12]; exact r1) (by show 1 < 12; decide)).trans (by rw [e1c]; exact congrArg some H2))) ?_
      refine Ev.ob (Ev.cn (a := some (D'.1 1 0)) (by rw [← j0.1]; simp only [rd0 j0.2])) (Ev.obs ?_)
      refine Ev.ob (Ev.cn (a := J (m + 1)) (by simp only [rd1 j1.2]; rw [e10, fu_e])) ?_
      rw [subc]
      exact Ev.ret
    · unfold Mo_machine_f
      have t1 : su σ 0 0 0 1 0 = J m := by rw [su_n (by decide), e1]
      simp only [bnd, t1, ne3, if_false, e1c, su_e, subc]
      exact Ev.ret
    · rw [N1'] at h1
      rw [sn 2 m' (by decide) (by decide), sn 3 m' (by decide) (by decide)]
      exact mz m' (by omega) h2
end BM
