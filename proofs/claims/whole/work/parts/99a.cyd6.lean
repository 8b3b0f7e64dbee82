/-! way: class and reference -/
theorem wainit {h : xH} {o z : Nat} (ho : o < z) (x1 x2 x3 x4 : Int32) (n : Nat) : Wa_init_f n o x1 x2 x3 x4 (xup h o (.inr (7, [.int 0, .int 0, .int 0, .int 0, .null, .null, .int 0]))) z = some (0, xup (xup (xup h z (inA 3 (fun _ => 0))) (z + 1) (inA 3 (fun _ => 0))) o (.inr (7, [.int x1, .int x2, .int x3, .int x4, .ref z, .ref (z + 1), .int 0])), 2, 6) := by
  unfold Wa_init_f He_init_f
  simp only [obd, bnd]
  rw [xup_comm _ _ _ (show o ≠ z by omega)]
  have p1 : pf (xup (xup h z (.inl (0, 3, .inl (fun _ => 0)))) o (.inr (7, [.int 0, .int 0, .int 0, .int 0, .null, .null, .int 0]))) o 7 4 (.ref z) = some (xup (xup h z (.inl (0, 3, .inl (fun _ => 0)))) o (.inr (7, [.int 0, .int 0, .int 0, .int 0, .ref z, .null, .int 0]))) := pf_x (by show 4 < 7; decide)
  rw [p1]
  dsimp only
  rw [xup_comm _ _ _ (show o ≠ z + 1 by omega)]
  show _ = some (0, xup (xup (xup h z (.inl (0, 3, .inl (fun _ => 0)))) (z + 1) (.inl (0, 3, .inl (fun _ => 0)))) o (.inr (7, [.int x1, .int x2, .int x3, .int x4, .ref z, .ref (z + 1), .int 0])), 2, 6)
  generalize xup (xup h z (.inl (0, 3, .inl (fun _ => 0)))) (z + 1) (.inl (0, 3, .inl (fun _ => 0))) = H
  have p2 : pf (xup H o (.inr (7, [.int 0, .int 0, .int 0, .int 0, .ref z, .null, .int 0]))) o 7 5 (.ref (z + 1)) = some (xup H o (.inr (7, [.int 0, .int 0, .int 0, .int 0, .ref z, .ref (z + 1), .int 0]))) := pf_x (by show 5 < 7; decide)
  have p3 : pf (xup H o (.inr (7, [.int 0, .int 0, .int 0, .int 0, .ref z, .ref (z + 1), .int 0]))) o 7 0 (.int x1) = some (xup H o (.inr (7, [.int x1, .int 0, .int 0, .int 0, .ref z, .ref (z + 1), .int 0]))) := pf_x (by show 0 < 7; decide)
  have p4 : pf (xup H o (.inr (7, [.int x1, .int 0, .int 0, .int 0, .ref z, .ref (z + 1), .int 0]))) o 7 1 (.int x2) = some (xup H o (.inr (7, [.int x1, .int x2, .int 0, .int 0, .ref z, .ref (z + 1), .int 0]))) := pf_x (by show 1 < 7; decide)
  have p5 : pf (xup H o (.inr (7, [.int x1, .int x2, .int 0, .int 0, .ref z, .ref (z + 1), .int 0]))) o 7 2 (.int x3) = some (xup H o (.inr (7, [.int x1, .int x2, .int x3, .int 0, .ref z, .ref (z + 1), .int 0]))) := pf_x (by show 2 < 7; decide)
  have p6 : pf (xup H o (.inr (7, [.int x1, .int x2, .int x3, .int 0, .ref z, .ref (z + 1), .int 0]))) o 7 3 (.int x4) = some (xup H o (.inr (7, [.int x1, .int x2, .int x3, .int x4, .ref z, .ref (z + 1), .int 0]))) := pf_x (by show 3 < 7; decide)
  simp only [p2, p3, p4, p5, p6]
  rfl
section BW
variable {D : kD} {κ : kS} {σ : mS} {τ : mL} {z : Nat}
theorem wayc_y (h : YW D κ σ) (hF : FZ D κ z) (hV : WV σ) (hT : WT σ) (x1 x2 x3 x4 x5 : Int32) : BO D κ σ τ z (fun n => Ti_way_f n (D.1 0 0) x1 x2 x3 x4 x5 (rn D κ) z) (fun n => Mo_way_f n x1 x2 x3 x4 x5 σ τ) := by
  have k0 := h.1.2.1 0 (by decide) (by decide) (by decide)
  have k1 := h.1.k1
  have hD := h.1.1
  have A0 : gq (rn D κ) (D.1 0 0) 4 0 = some (some (D.1 1 0)) := by simp only [rd0 k0]
  rcases n_or (N (σ 1 0)) x1 with ⟨m, hm, rfl⟩ | hx
  · have hm3 : m < 3 := by have := h.2.2.1.2; omega
    have c1 := machineAt_in h.1 h.mc (m := m) (by rw [h.2.1.1]; exact hm)
    have lm := h.1.2.2.2.1 m (by rw [h.2.1.1]; exact hm)
    have nm : Int32.toNatClampNeg (J m) = m := J_nat (by omega)
    have xm : xin (J m) 3 = true := xin_J hm3 (by decide)
    rcases pl_or h (J m) x2 with ⟨m', f, hm', hf, em, rfl⟩ | ⟨o1, o2⟩
    · have emm : m' = m := by rw [J_eq (by omega) (by have := h.2.2.1.2; omega)] at em; exact em.symm
      rw [emm] at hf
      have f1 := h.pl hm hf
      have f2 := isPlace_in (τ := τ) (h.2.2.eq (yq_0 σ)) (m := m) (p := f) (by rw [su_n (by decide)]; exact hm) (by rw [su_n (by decide)]; exact hf)
      rcases pl_or h (J m) x3 with ⟨m'', t, hm'', ht, em2, rfl⟩ | ⟨o1, o2⟩
      · have emm2 : m'' = m := by rw [J_eq (by omega) (by have := h.2.2.1.2; omega)] at em2; exact em2.symm
        rw [emm2] at ht
        have t1 := h.pl hm ht
        have t2 := isPlace_in (τ := τ) (h.2.2.eq (yq_0 σ)) (m := m) (p := t) (by rw [su_n (by decide)]; exact hm) (by rw [su_n (by decide)]; exact ht)
        have s2 := (h.2.2.2.1 m hm3).1.2
        rcases btw x4 (-9) 9 (-9) 9 (by decide) (by decide) with ⟨w1, w2, w3, w4⟩ | ⟨-, w3, w4⟩
        · rcases btw x5 0 7 0 7 (by decide) (by decide) with ⟨v1, v2, v3, v4⟩ | ⟨-, v3, v4⟩
          · have y := (h.2.1.2 m hm).1
            have s3 := (h.2.2.2.1 m hm3).2
            by_cases g : N (σ 3 m) = 12
            · have e3 : σ 3 m = 12 := by rw [s3.1, g]; rfl
              refine BO_no h hF hV hT (r := -2) ?_ ?_
              · unfold Ti_way_f
                simp only [obd, bnd, oel, A0, rd1 k1, if_true, c1, f1, t1, w4, v4, rd10 lm.1, y.2, e3]
                exact Ev.neg (by decide) (Ev.neg (by decide) (Ev.neg (by decide) Ev.ret))
              · unfold Mo_way_f
                simp only [obd, bnd, f2, t2, w3, v3, nm, xm, if_true]
                refine Ev.neg (by decide) (Ev.neg (by decide) (Ev.neg (by decide) (Ev.neg (by decide) (Ev.pos ?_ Ev.ret))))
                rw [su_n (by decide)]; exact e3
            · have hc : N (σ 3 m) < 12 := by have := s3.2; omega
              have e3 : σ 3 m = J (N (σ 3 m)) := s3.1
              generalize hcn : N (σ 3 m) = c at hc e3 g
              have y2 : κ 10 m 3 = J c := y.2.trans e3
              have nk : N (κ 10 m 3) = c := by rw [y2]; exact J_nat (by omega)
              have lt12 : J c < 12 := by rw [J12, J_lt (by omega) (by omega)]; omega
              have ne12 : ¬ (J c = 12) := by rw [J12, J_eq (by omega) (by omega)]; omega
              generalize hx : 12 * m + c = x
              have xdm : x / 12 = m ∧ x % 12 = c := by omega
              have dd : ∀ kd, kd = 16 ∨ kd = 17 ∨ kd = 18 → dead D kd x := fun kd hk a e => by
                have l := (hF.2.1 a _ e).2.2.2.2.1 hk
                dsimp only at l
                rw [xdm.1, xdm.2, nk] at l
                omega
              obtain ⟨x1', x2', x3', dB, dC⟩ := dT_Dx (z := z) (kA := 17) (kB := 18) (kC := 16) (x := x) hF.1 (dd 17 (by omega)) (dd 18 (by omega)) (dd 16 (by omega)) (by decide) (by decide) (by decide)
              have xD := (x1'.tr x2').tr x3'
              generalize hDp : dT D z 17 18 16 x = D' at x3' xD
              let wf : Nat → Int32 := fun i => if i = 0 then J f else if i = 1 then J t else if i = 2 then x4 else if i = 3 then x5 else 0
              let κ1 : kS := kf (kf (kf κ 17 x (fun _ => 0)) 18 x (fun _ => 0)) 16 x wf
              let κ2 : kS := ku κ1 10 m 3 (J (c + 1))
              have n1 : ∀ kd ix, ¬ (kd = 16 ∧ ix = x) → ¬ (kd = 17 ∧ ix = x) → ¬ (kd = 18 ∧ ix = x) → κ1 kd ix = κ kd ix := fun kd ix a b c => by
                show kf (kf (kf κ 17 x (fun _ => 0)) 18 x (fun _ => 0)) 16 x wf kd ix = _
                rw [kf_n a, kf_n c, kf_n b]
              have q16 : ∀ a q, D.2.1 a = some q → ¬ (q.1 = 16 ∧ q.2 = x) := fun a q hq t => dd 16 (by omega) a (by rw [hq, ← t.1, ← t.2])
              have WD' : WD D' := by rw [← hDp]; exact dN_WD (dN_WD (dN_WD hD (dd 17 (by omega))) dB) dC
              have a16 : D'.1 16 x = z := by rw [← hDp]; exact dN_e _ _ _ _
              have a17 : D'.1 17 x = z + 1 := by
                rw [← hDp]
                unfold dT
                rw [dN_n (by omega), dN_n (by omega)]
                exact dN_e _ _ _ _
              have a18 : D'.1 18 x = z + 1 + 1 := by
                rw [← hDp]
                unfold dT
                rw [dN_n (by omega)]
                exact dN_e _ _ _ _
              have i16 : kI D' 16 x := by rw [← hDp]; exact dN_new _ _ _ _
              have i18 : kI D' 18 x := (x3'.1 _ _ (dN_new _ _ _ _)).2
              have i17 : kI D' 17 x := ((x2'.tr x3').1 _ _ (dN_new _ _ _ _)).2
              have X : ∀ {μ : kS} {a b : Nat} {f : Nat → Int32}, a ≠ 9 → a ≠ 10 → a ≠ 22 → a ≠ 1 → kxd μ (kf μ a b f) := fun h9 h10 h22 h1 => kxd_kf h9 h10 h22 (fun t => absurd t h1)
              have e16x : κ1 16 x = wf := kf_e _ _ _ _
              have H1 : xup (xup (xup (rn D κ) (z + 1) (inA 3 (fun _ => 0))) (z + 1 + 1) (inA 3 (fun _ => 0))) z (.inr (7, [.int (J f), .int (J t), .int x4, .int x5, .ref (z + 1), .ref (z + 1 + 1), .int 0])) = rn D' κ1 := by
                have h1 : xup (rn D κ) (z + 1) (inA 3 (fun _ => 0)) = rn (dN D (z + 1) 17 x) (kf κ 17 x (fun _ => 0)) := rn_new (dd 17 (by omega)) (by simp only [kcl, kf_e]) (fun _ _ t => kf_n t) (X (by decide) (by decide) (by decide) (by decide)) (fun a q hq hh => by
                  have r := rfs_17 hh
                  exact q16 a q hq ⟨r.1, r.2⟩)
                have h2 : xup (rn (dN D (z + 1) 17 x) (kf κ 17 x (fun _ => 0))) (z + 1 + 1) (inA 3 (fun _ => 0)) = rn (dN (dN D (z + 1) 17 x) (z + 1 + 1) 18 x) (kf (kf κ 17 x (fun _ => 0)) 18 x (fun _ => 0)) := rn_new dB (by simp only [kcl, kf_e]) (fun _ _ t => kf_n t) (X (by decide) (by decide) (by decide) (by decide)) (fun a q hq hh => by
                  have r := rfs_18 hh
                  by_cases ha : a = z + 1
                  · rw [ha, dN_Ie] at hq
                    cases hq
                    omega
                  · rw [dN_In ha] at hq
                    exact q16 a q hq ⟨r.1, r.2⟩)
                have h3 : xup (rn (dN (dN D (z + 1) 17 x) (z + 1 + 1) 18 x) (kf (kf κ 17 x (fun _ => 0)) 18 x (fun _ => 0))) z (.inr (7, [.int (J f), .int (J t), .int x4, .int x5, .ref (z + 1), .ref (z + 1 + 1), .int 0])) = rn (dT D z 17 18 16 x) κ1 := rn_new dC (by
                  show kcl (dT D z 17 18 16 x) κ1 16 x = _
                  rw [hDp]
                  simp only [kcl, e16x, a17, a18]
                  rfl) (fun _ _ t => kf_n t) (X (by decide) (by decide) (by decide) (by decide)) (fun a q hq hh => by
                  obtain ⟨r1, pp, r2, r3⟩ := rfs_16 hh
                  rw [kf_k (by decide), kf_k (by decide)] at r2
                  have ql : lq κ q.1 q.2 ∨ q.1 = 17 ∨ q.1 = 18 := by
                    by_cases ha : a = z + 1 + 1
                    · rw [ha, dN_Ie] at hq; cases hq; exact Or.inr (Or.inr rfl)
                    · rw [dN_In ha] at hq
                      by_cases ha2 : a = z + 1
                      · rw [ha2, dN_Ie] at hq; cases hq; exact Or.inr (Or.inl rfl)
                      · rw [dN_In ha2] at hq; exact Or.inl (hF.2.1 a q hq)
                  rcases ql with l | l | l
                  · have l1 := l.2.2.1 (by omega)
                    rw [h.2.1.1] at l1
                    have l3 : q.2 < 3 := by have := h.2.2.1.2; omega
                    have yq2 := (h.2.1.2 q.2 l1).1.2
                    rw [yq2] at r2
                    have := (h.2.2.2.1 q.2 l3).2.2
                    have e : q.2 = m := by omega
                    rw [e, hcn] at r2
                    omega
                  · omega
                  · omega)
                rw [h1, h2, h3, hDp]
              have i12 := xD.1 12 m lm.2.2.1
              have i10 := xD.1 10 m lm.1
              have e10 : κ2 10 m = fu (κ 10 m) 3 (J (c + 1)) := by
                show ku κ1 10 m 3 (J (c + 1)) 10 m = _
                rw [ku_e, n1 10 m (by omega) (by omega) (by omega)]
              have n2 : ∀ kd ix, ¬ (kd = 10 ∧ ix = m) → κ2 kd ix = κ1 kd ix := fun kd ix hn => ku_n hn
              have N2 : N (κ2 10 m 3) = c + 1 := by rw [e10, fu_e]; exact J_nat (by omega)
              have r12 : rn D' κ1 (D.1 12 m) = some (rfA 5 12 (fun p => if p < c then some (D'.1 16 (12 * m + p)) else none)) := by
                rw [← i12.1, rn_at i12.2]
                simp only [kcl]
                rw [n1 10 m (by omega) (by omega) (by omega), nk]
              have kcz : kc (rn D' κ1) z 7 = true := by
                have := (rd16 (κ := κ1) i16).1
                rw [a16] at this
                exact this
              have pqe := pq_of (kd := 5) (ci := 7) (v := z) r12 hc (by decide) kcz
              have r10 : rn D' κ1 (D.1 10 m) = some (.inr (5, [.ref (D'.1 11 m), .ref (D'.1 12 m), .int (κ 10 m 2), .int (J c)])) := by
                rw [← i10.1, rn_at i10.2]
                simp only [kcl]
                rw [n1 10 m (by omega) (by omega) (by omega), y2]
              have ne1012 : D.1 10 m ≠ D.1 12 m := kI_ne lm.1 lm.2.2.1 (by omega)
              have H2 : xup (xup (rn D' κ1) (D.1 12 m) (rfA 5 12 (va_up (fun p => if p < c then some (D'.1 16 (12 * m + p)) else none) c (some z)))) (D.1 10 m) (.inr (5, [.ref (D'.1 11 m), .ref (D'.1 12 m), .int (κ 10 m 2), .int (J (c + 1))])) = rn D' κ2 := by
                rw [← i12.1, ← i10.1]
                refine rn_put2 WD' i12.2 i10.2 (by omega) ?_ ?_ (fun _ k i _ a b => ?_)
                · simp only [kcl, N2]
                  congr 2
                  funext p
                  unfold va_up
                  dsimp only
                  by_cases gp : p = c
                  · rw [if_pos (by omega), if_pos gp, gp, hx, a16]
                  · rw [if_neg gp]
                    by_cases g2 : p < c
                    · rw [if_pos (by omega), if_pos g2]
                    · rw [if_neg (by omega), if_neg g2]
                · simp only [kcl, e10, fu_e]
                  rw [fu_n (by decide)]
                · refine kcl_cg' (n2 k i b) (fun _ => by rw [n2 1 0 (by omega)]) (fun _ => by funext w; exact n2 9 w (by omega)) (fun t => ?_) (fun t => ?_) (fun _ => n2 22 i (by omega))
                  · by_cases gi' : i = m
                    · rw [gi', e10, fu_n (by decide), n1 10 m (by omega) (by omega) (by omega)]
                    · rw [n2 10 i (by omega)]
                  · by_cases gi' : i = m
                    · exact absurd ⟨t, gi'⟩ a
                    · rw [n2 10 i (by omega)]
              let σ' : mS := su (su (su (su (su (su (su σ 0 0 0) 7 x (J f)) 8 x (J t)) 9 x x4) 10 x x5) 11 x 0) 3 m (J (c + 1))
              have sn : ∀ s b, s ≠ 0 → s ≠ 7 → s ≠ 8 → s ≠ 9 → s ≠ 10 → s ≠ 11 → s ≠ 3 → σ' s b = σ s b := fun s b h0 h7 h8 h9 h10 h11 h3 => by
                show su (su (su (su (su (su (su σ 0 0 0) 7 x (J f)) 8 x (J t)) 9 x x4) 10 x x5) 11 x 0) 3 m (J (c + 1)) s b = _
                rw [su_n h3, su_n h11, su_n h10, su_n h9, su_n h8, su_n h7, su_n h0]
              have s3' : ∀ b, σ' 3 b = if b = m then J (c + 1) else σ 3 b := fun b => by
                show su (su (su (su (su (su (su σ 0 0 0) 7 x (J f)) 8 x (J t)) 9 x x4) 10 x x5) 11 x 0) 3 m (J (c + 1)) 3 b = _
                by_cases q : b = m
                · rw [q, su_e, if_pos rfl]
                · rw [if_neg q]; simp [su, q]
              have s11' : ∀ b, σ' 11 b = if b = x then 0 else σ 11 b := fun b => by
                show su (su (su (su (su (su (su σ 0 0 0) 7 x (J f)) 8 x (J t)) 9 x x4) 10 x x5) 11 x 0) 3 m (J (c + 1)) 11 b = _
                rw [su_n (by decide)]
                by_cases q : b = x
                · rw [q, su_e, if_pos rfl]
                · rw [if_neg q]; simp [su, q]
              have s10' : ∀ b, σ' 10 b = if b = x then x5 else σ 10 b := fun b => by
                show su (su (su (su (su (su (su σ 0 0 0) 7 x (J f)) 8 x (J t)) 9 x x4) 10 x x5) 11 x 0) 3 m (J (c + 1)) 10 b = _
                rw [su_n (by decide), su_n (by decide)]
                by_cases q : b = x
                · rw [q, su_e, if_pos rfl]
                · rw [if_neg q]; simp [su, q]
              have s9' : ∀ b, σ' 9 b = if b = x then x4 else σ 9 b := fun b => by
                show su (su (su (su (su (su (su σ 0 0 0) 7 x (J f)) 8 x (J t)) 9 x x4) 10 x x5) 11 x 0) 3 m (J (c + 1)) 9 b = _
                rw [su_n (by decide), su_n (by decide), su_n (by decide)]
                by_cases q : b = x
                · rw [q, su_e, if_pos rfl]
                · rw [if_neg q]; simp [su, q]
              have s8' : ∀ b, σ' 8 b = if b = x then J t else σ 8 b := fun b => by
                show su (su (su (su (su (su (su σ 0 0 0) 7 x (J f)) 8 x (J t)) 9 x x4) 10 x x5) 11 x 0) 3 m (J (c + 1)) 8 b = _
                rw [su_n (by decide), su_n (by decide), su_n (by decide), su_n (by decide)]
                by_cases q : b = x
                · rw [q, su_e, if_pos rfl]
                · rw [if_neg q]; simp [su, q]
              have s7' : ∀ b, σ' 7 b = if b = x then J f else σ 7 b := fun b => by
                show su (su (su (su (su (su (su σ 0 0 0) 7 x (J f)) 8 x (J t)) 9 x x4) 10 x x5) 11 x 0) 3 m (J (c + 1)) 7 b = _
                rw [su_n (by decide), su_n (by decide), su_n (by decide), su_n (by decide), su_n (by decide)]
                by_cases q : b = x
                · rw [q, su_e, if_pos rfl]
                · rw [if_neg q]; simp [su, q]
              have S : ∀ s b, s = 1 ∨ s = 2 ∨ s = 4 ∨ s = 5 ∨ s = 6 ∨ 11 < s → σ' s b = σ s b := fun s b hs => sn s b (by omega) (by omega) (by omega) (by omega) (by omega) (by omega) (by omega)
              have n3' : ∀ b, N (σ' 3 b) = if b = m then c + 1 else N (σ 3 b) := fun b => by
                rw [s3']
                by_cases q : b = m
                · rw [if_pos q, if_pos q]; exact J_nat (by omega)
                · rw [if_neg q, if_neg q]
              have hx36 : x < 36 := by omega
              have WY' : WY σ' := by
                obtain ⟨w1, w2, w3, w4, w5, w6⟩ := h.2.2
                refine ⟨by rw [S 1 0 (by omega)]; exact w1, fun b hb => ?_, fun b hb => by rw [S 4 b (by omega)]; exact w3 b hb, fun b hb => by rw [S 5 b (by omega)]; exact w4 b hb, fun b hb => ?_, fun b hb => by rw [S 12 b (by omega), S 13 b (by omega)]; exact w6 b hb⟩
                · rw [s3', S 2 b (by omega)]
                  by_cases q : b = m
                  · rw [if_pos q]; exact ⟨(w2 b hb).1, sml_J (by omega) (by decide)⟩
                  · rw [if_neg q]; exact w2 b hb
                · rw [s7', s8', s11']
                  by_cases q : b = x
                  · rw [if_pos q, if_pos q, if_pos q]; exact ⟨sml_J (by omega) (by decide), sml_J (by omega) (by decide), sml_J (k := 0) (by omega) (by decide)⟩
                  · rw [if_neg q, if_neg q, if_neg q]; exact w5 b hb
              have WV' : WV σ' := by
                refine ⟨fun b l hb hl => ?_, fun b t hb ht => ?_⟩
                · rw [S 4 b (by omega)] at hl
                  rw [S 5 _ (by omega), S 6 _ (by omega)]
                  exact hV.1 b l hb hl
                · rw [s11'] at ht
                  by_cases q : b = x
                  · rw [if_pos q] at ht
                    exact absurd ht (Nat.not_lt_zero t)
                  · rw [if_neg q] at ht
                    rw [S 12 _ (by omega), S 13 _ (by omega), S 14 _ (by omega)]
                    exact hV.2 b t hb ht
              have WT' : WT σ' := fun a w ha hw => by
                rw [S 1 0 (by omega)] at ha
                rw [n3'] at hw
                rw [s8', S 2 a (by omega)]
                have ha3 : a < 3 := by have := h.2.2.1.2; omega
                by_cases q : 12 * a + w = x
                · rw [if_pos q, show N (J t) = t from J_nat (by omega)]
                  have : a = m := by
                    by_cases qa : a = m
                    · exact qa
                    · rw [if_neg qa] at hw
                      have := (h.2.2.2.1 a ha3).2.2
                      omega
                  rw [this]; exact ht
                · rw [if_neg q]
                  refine hT a w ha ?_
                  by_cases qa : a = m
                  · rw [if_pos qa] at hw; rw [qa, hcn]; omega
                  · rw [if_neg qa] at hw; exact hw
              have kk : ∀ kd ix, ¬ (kd = 16 ∧ ix = x) → ¬ (kd = 17 ∧ ix = x) → ¬ (kd = 18 ∧ ix = x) → ¬ (kd = 10 ∧ ix = m) → κ2 kd ix = κ kd ix := fun kd ix a b c d => (n2 kd ix d).trans (n1 kd ix a b c)
              have e16 : κ2 16 x = wf := by rw [n2 16 x (by omega)]; exact e16x
              have YR' : YR κ2 σ' := by
                refine ⟨by rw [kk 1 0 (by omega) (by omega) (by omega) (by omega), S 1 0 (by omega)]; exact h.2.1.1, fun m' hm' => ?_⟩
                rw [S 1 0 (by omega)] at hm'
                obtain ⟨ya, yb, yc⟩ := h.2.1.2 m' hm'
                have hb3 : m' < 3 := by have := h.2.2.1.2; omega
                refine ⟨?_, fun p' hp' => ?_, fun w hw => ?_⟩
                · rw [s3', S 2 m' (by omega)]
                  by_cases q : m' = m
                  · rw [q, e10, fu_e, fu_n (by decide), if_pos rfl]; exact ⟨by rw [← q]; exact ya.1, rfl⟩
                  · rw [kk 10 m' (by omega) (by omega) (by omega) (by omega), if_neg q]; exact ya
                · rw [S 2 m' (by omega)] at hp'
                  rw [kk 13 _ (by omega) (by omega) (by omega) (by omega), kk 14 _ (by omega) (by omega) (by omega) (by omega), kk 15 _ (by omega) (by omega) (by omega) (by omega), S 4 _ (by omega)]
                  refine ⟨(yb p' hp').1, fun l hl => ?_⟩
                  rw [S 5 _ (by omega), S 6 _ (by omega)]
                  exact (yb p' hp').2 l hl
                · rw [n3'] at hw
                  by_cases q : 12 * m' + w = x
                  · rw [q, e16, s7', s8', s9', s10', s11', if_pos rfl, if_pos rfl, if_pos rfl, if_pos rfl, if_pos rfl]
                    exact ⟨⟨rfl, rfl, rfl, rfl, rfl⟩, fun t ht => absurd ht (Nat.not_lt_zero t)⟩
                  · have hw2 : w < N (σ 3 m') := by
                      by_cases qm : m' = m
                      · rw [if_pos qm] at hw; rw [qm, hcn]; omega
                      · rw [if_neg qm] at hw; exact hw
                    rw [kk 16 _ (by omega) (by omega) (by omega) (by omega), kk 17 _ (by omega) (by omega) (by omega) (by omega), kk 18 _ (by omega) (by omega) (by omega) (by omega), s7', s8', s9', s10', s11', if_neg q, if_neg q, if_neg q, if_neg q, if_neg q]
                    refine ⟨(yc w hw2).1, fun t ht => ?_⟩
                    rw [S 12 _ (by omega), S 13 _ (by omega), S 14 _ (by omega)]
                    exact (yc w hw2).2 t ht
              have k9 : κ2 9 = κ 9 := by funext w; exact kk 9 w (by omega) (by omega) (by omega) (by omega)
              have k22 : ∀ d, κ2 22 d = κ 22 d := fun d => kk 22 d (by omega) (by omega) (by omega) (by omega)
              have k3 : κ2 3 0 0 = κ 3 0 0 := by rw [kk 3 0 (by omega) (by omega) (by omega) (by omega)]
              have k11 : κ2 1 0 = κ 1 0 := kk 1 0 (by omega) (by omega) (by omega) (by omega)
              have LV' : LV D' κ2 := by
                refine ⟨WD', fun kd hh h6 h7 => (xD.1 _ _ (h.1.2.1 kd hh h6 h7)).2, fun i hi => ?_, fun m' hm' => ?_, fun j hj => ?_, fun d hd h0 => ?_⟩
                · rw [k3] at hi
                  exact ⟨(xD.1 _ _ (h.1.2.2.1 i hi).1).2, (xD.1 _ _ (h.1.2.2.1 i hi).2).2⟩
                · rw [k11] at hm'
                  have l := h.1.2.2.2.1 m' hm'
                  refine ⟨(xD.1 _ _ l.1).2, (xD.1 _ _ l.2.1).2, (xD.1 _ _ l.2.2.1).2, fun p hp => ?_, fun w hw => ?_⟩
                  · have hp2 : p < N (κ 10 m' 2) := by
                      by_cases qm : m' = m
                      · rw [qm, e10, fu_n (by decide)] at hp; rw [qm]; exact hp
                      · rw [kk 10 m' (by omega) (by omega) (by omega) (by omega)] at hp; exact hp
                    have lp := l.2.2.2.1 p hp2
                    exact ⟨(xD.1 _ _ lp.1).2, (xD.1 _ _ lp.2.1).2, (xD.1 _ _ lp.2.2).2⟩
                  · by_cases q : 12 * m' + w = x
                    · rw [q]; exact ⟨i16, i17, i18⟩
                    · have hw2 : w < N (κ 10 m' 3) := by
                        by_cases qm : m' = m
                        · rw [qm, N2] at hw; rw [qm, nk]; omega
                        · rw [kk 10 m' (by omega) (by omega) (by omega) (by omega)] at hw; exact hw
                      have lw := l.2.2.2.2 w hw2
                      exact ⟨(xD.1 _ _ lw.1).2, (xD.1 _ _ lw.2.1).2, (xD.1 _ _ lw.2.2).2⟩
                · rw [k3] at hj
                  have l := h.1.2.2.2.2.1 j hj
                  exact ⟨(xD.1 _ _ l.1).2, (xD.1 _ _ l.2.1).2, (xD.1 _ _ l.2.2).2⟩
                · rw [k9] at h0 ⊢
                  rw [k22]
                  have l := h.1.2.2.2.2.2 d hd h0
                  exact ⟨(xD.1 _ _ l.1).2, (xD.1 _ _ l.2.1).2, fun t => (xD.1 _ _ (l.2.2 t)).2⟩
              have FZ' : FZ D' κ2 (z + 3) := by
                have up : ∀ kd ix, lq κ kd ix → lq κ2 kd ix := fun kd ix l => by
                  unfold lq at l ⊢
                  rw [k3, k11, k9]
                  refine ⟨l.1, l.2.1, l.2.2.1, fun t => ?_, fun t => ?_, l.2.2.2.2.2.1, l.2.2.2.2.2.2⟩
                  · have := l.2.2.2.1 t
                    refine ⟨this.1, ?_⟩
                    by_cases qm : ix / 6 = m
                    · rw [qm, e10, fu_n (by decide)]; rw [qm] at this; exact this.2
                    · rw [kk 10 _ (by omega) (by omega) (by omega) (by omega)]; exact this.2
                  · have := l.2.2.2.2.1 t
                    refine ⟨this.1, ?_⟩
                    by_cases qm : ix / 12 = m
                    · rw [qm, N2]; rw [qm, nk] at this; omega
                    · rw [kk 10 _ (by omega) (by omega) (by omega) (by omega)]; exact this.2
                have nw : ∀ kd, kd = 16 ∨ kd = 17 ∨ kd = 18 → lq κ2 kd x := fun kd hk => by
                  unfold lq
                  rw [k11, xdm.1, xdm.2, N2, h.2.1.1]
                  refine ⟨by omega, by omega, by omega, by omega, fun _ => ⟨hm, by omega⟩, by omega, by omega⟩
                refine ⟨fun a ha => ?_, ?_, fun d h0 => ?_⟩
                · rw [← hDp, dT_In (by omega)]; exact hF.1 a (by omega)
                · rw [← hDp]
                  exact dT_q (P := lq κ2) (fun a q hq => up _ _ (hF.2.1 a q hq)) (nw 17 (by omega)) (nw 18 (by omega)) (nw 16 (by omega))
                · rw [k9] at h0 ⊢; exact hF.2.2 d h0
              have e1c : J c + 1 = J (c + 1) := J_add c 1
              have subc : J (c + 1) - 1 = J c := J_sub1 c
              refine ⟨J c, D', κ2, σ', 3, 13, ?_, ?_, xD, ⟨LV', YR', WY'⟩, FZ', WV', WT', ⟨fun kd ix a b => kk kd ix (by omega) (by omega) (by omega) (by omega), fun c' _ => by rw [k11]⟩, fun s b hs => sn s b (by omega) (by omega) (by omega) (by omega) (by omega) (by omega) (by omega), by omega, by omega, fun mz m' h1 h2 => by
                rw [S 1 0 (by omega)] at h1
                rw [S 2 m' (by omega), s3', if_neg (by omega)]
                exact mz m' h1 h2⟩
              · unfold Ti_way_f
                refine Ev.ob (Ev.cn A0) (Ev.obs (Ev.pos (rd1 k1).1 (Ev.ob ⟨0, fun n _ => c1 n⟩ (Ev.bn (Ev.oeS ?_)))))
                refine Ev.ob (Ev.cn A0) (Ev.obs (Ev.pos (rd1 k1).1 (Ev.ob ⟨0, fun n _ => f1 n⟩ (Ev.bn (Ev.oeS ?_)))))
                refine Ev.ob (Ev.cn A0) (Ev.obs (Ev.pos (rd1 k1).1 (Ev.ob ⟨0, fun n _ => t1 n⟩ (Ev.bn (Ev.oeS ?_)))))
                refine Ev.ob ⟨0, fun n _ => w4 n _⟩ (Ev.neg (show ¬ (1 : Int32) = 0 by decide) ?_)
                refine Ev.ob ⟨0, fun n _ => v4 n _⟩ (Ev.neg (show ¬ (1 : Int32) = 0 by decide) ?_)
                refine Ev.ob (Ev.cn (a := J c) (by simp only [rd10 lm.1]; rw [y2])) (Ev.pos lt12 ?_)
                refine Ev.ob (Ev.cn (a := some (D.1 12 m)) (by simp only [rd10 lm.1])) (Ev.ob (Ev.cn (a := J c) (by simp only [rd10 lm.1]; rw [y2])) ?_)
                refine Ev.oad (a := 1) (b := 7) (c := 2) (s := 6) (Ev.bn (Ev.ob ⟨0, fun n _ => wainit (show z < z + 1 by omega) (J f) (J t) x4 x5 n⟩ ?_))
                dsimp only
                rw [H1]
                refine Ev.oad (a := 2) (b := 6) (c := 0) (s := 0) (Ev.obs (Ev.ob (Ev.cn pqe) ?_))
                refine Ev.ob (Ev.cn (a := J c) (by
                  rw [gi_ne ne1012]
                  unfold gi
                  rw [r10]
                  rfl)) ?_
                refine Ev.ob (Ev.cn (a := rn D' κ2) ((pf_of (by rw [xup_ne ne1012]; exact r10) (by show 3 < 4; decide)).trans (by rw [e1c]; exact congrArg some H2))) ?_
                refine Ev.ob (Ev.cn (a := J (c + 1)) (by rw [← i10.1]; simp only [rd10 i10.2]; rw [e10, fu_e])) ?_
                rw [subc]
                exact Ev.ret
              · unfold Mo_way_f
                have q3 : su σ 0 0 0 3 m = J c := by rw [su_n (by decide), e3]
                have q3a : su (su (su (su (su (su σ 0 0 0) 7 x (J f)) 8 x (J t)) 9 x x4) 10 x x5) 11 x 0 3 m = J c := by rw [su_n (by decide), su_n (by decide), su_n (by decide), su_n (by decide), su_n (by decide)]; exact q3
                have e6 : (12 : Int32) * J m + J c = J x := by rw [J12, J_mul, J_add, hx]
                have xx : xin (J x) 36 = true := xin_J hx36 (by decide)
                have nx : Int32.toNatClampNeg (J x) = x := J_nat (by omega)
                simp only [obd, bnd, f2, t2, w3, v3, nm, xm, if_true, q3, ne12, if_false, e6, xx, nx, q3a, e1c, su_e, subc]
                exact Ev.neg (by decide) (Ev.neg (by decide) (Ev.neg (by decide) (Ev.neg (by decide) Ev.ret)))
          · refine BO_no h hF hV hT (r := -1) ?_ ?_
            · unfold Ti_way_f
              simp only [obd, bnd, oel, A0, rd1 k1, if_true, c1, f1, t1, w4, v4]
              exact Ev.neg (by decide) Ev.ret
            · unfold Mo_way_f
              simp only [obd, bnd, f2, t2, w3, v3, if_true]
              exact Ev.neg (by decide) (Ev.neg (by decide) (Ev.neg (by decide) Ev.ret))
        · refine BO_no h hF hV hT (r := -1) ?_ ?_
          · unfold Ti_way_f
            simp only [obd, bnd, oel, A0, rd1 k1, if_true, c1, f1, t1, w4]
            exact Ev.ret
          · unfold Mo_way_f
            simp only [obd, bnd, f2, t2, w3, if_true]
            exact Ev.neg (by decide) (Ev.neg (by decide) Ev.ret)
      · refine BO_no h hF hV hT (r := -1) ?_ ?_
        · unfold Ti_way_f
          simp only [obd, bnd, oel, A0, rd1 k1, if_true, c1, f1, o1]
          exact Ev.ret
        · unfold Mo_way_f
          simp only [obd, bnd, f2, o2 _ (yq_0 σ), if_true]
          exact Ev.neg (by decide) Ev.ret
    · refine BO_no h hF hV hT (r := -1) ?_ ?_
      · unfold Ti_way_f
        simp only [obd, bnd, oel, A0, rd1 k1, if_true, c1, o1]
        exact Ev.ret
      · unfold Mo_way_f
        simp only [obd, bnd, o2 _ (yq_0 σ), if_true]
        exact Ev.ret
  · have c1 := machineAt_out h.1 h.mc (y := x1) (by rw [h.2.1.1]; exact hx)
    have c2 := isPlace_om (τ := τ) (h.2.2.eq (yq_0 σ)) (y := x1) (by rw [su_n (by decide)]; exact hx) x2
    refine BO_no h hF hV hT (r := -1) ?_ ?_
    · unfold Ti_way_f
      simp only [obd, bnd, oel, A0, rd1 k1, if_true, c1]
      exact Ev.ret
    · unfold Mo_way_f
      simp only [obd, bnd, c2, if_true]
      exact Ev.ret
end BW
