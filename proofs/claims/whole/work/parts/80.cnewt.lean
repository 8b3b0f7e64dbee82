/-! the class's newState, all of it -/
section SN
variable {D : kD} {κ : kS} {σ : mS} {z k : Nat}
theorem dS_heap (hL : LV D κ) (hF : FZ D κ z) (hk : N (κ 3 0 0) = k) : xup (xup (xup (xup (xup (xup (xup (rn D κ) (z + 1) (inA 3 (fun _ => 0))) (z + 1 + 1) (inA 4 (fun _ => 0))) (z + 1 + 1 + 1) (zCel 4 (z + 1 + 1 + 1 + 1))) (z + 1 + 1 + 1 + 1) (inA 16 (ones 16))) (z + 1 + 1 + 1 + 1 + 1) (zCel 5 (z + 1 + 1 + 1 + 1 + 1 + 1))) (z + 1 + 1 + 1 + 1 + 1 + 1) (inA 25 (ones 25))) z (sCel (J k) (z + 1) (z + 1 + 1) (z + 1 + 1 + 1) (z + 1 + 1 + 1 + 1 + 1)) = rn (dS D z k) (kS7 κ k) := by
  obtain ⟨⟨d1, d2, d3, d4, d5, d6, d7⟩, ⟨p0, p1, p2, p3, p4, p5, p6⟩, -⟩ := dS_all hL hF hk
  have X : ∀ {μ : kS} {a b : Nat} {f : Nat → Int32}, a ≠ 9 → a ≠ 10 → a ≠ 22 → a ≠ 1 → kxd μ (kf μ a b f) := fun h9 h10 h22 h1 => kxd_kf h9 h10 h22 (fun t => absurd t h1)
  have h1 : xup (rn D κ) (z + 1) (inA 3 (fun _ => 0)) = rn (dS1 D z k) (kS1 κ k) := rn_new d1 (by simp only [kcl, kS1, kf_e]) (fun _ _ t => kf_n t) (X (by decide) (by decide) (by decide) (by decide)) (fun a q hq hh => by
    have r := rfs_20 hh
    have := (p0 a q hq).1 r.1
    omega)
  have h2 : xup (rn (dS1 D z k) (kS1 κ k)) (z + 1 + 1) (inA 4 (fun _ => 0)) = rn (dS2 D z k) (kS2 κ k) := rn_new d2 (by simp only [kcl, kS2, kf_e]) (fun _ _ t => kf_n t) (X (by decide) (by decide) (by decide) (by decide)) (fun a q hq hh => by
    have r := rfs_21 hh
    have := (p1 a q hq).1 r.1
    omega)
  have h3 : xup (rn (dS2 D z k) (kS2 κ k)) (z + 1 + 1 + 1 + 1) (inA 16 (ones 16)) = rn (dS3 D z k) (kS3 κ k) := rn_new d3 (by simp only [kcl, kS3, kf_e, zn_e]) (fun _ _ t => kf_n t) (X (by decide) (by decide) (by decide) (by decide)) (fun a q hq hh => by
    have r := rfs_7 hh
    have := (p2 a q hq).2.1 r.1
    omega)
  have a7 : (dS4 D z k).1 7 (2 * k + 2) = z + 1 + 1 + 1 + 1 := by
    unfold dS4
    rw [dN_n (by omega)]
    exact dN_e _ _ _ _
  have h4 : xup (rn (dS3 D z k) (kS3 κ k)) (z + 1 + 1 + 1) (zCel 4 (z + 1 + 1 + 1 + 1)) = rn (dS4 D z k) (kS4 κ k) := rn_new d4 (by
    show kcl (dS4 D z k) (kS4 κ k) 6 (2 * k + 2) = _
    simp only [kcl, kS4, kf_e, zn_e, a7]
    rfl) (fun _ _ t => kf_n t) (X (by decide) (by decide) (by decide) (by decide)) (fun a q hq hh => by
    rcases rfs_6 hh with r | r
    · omega
    · have := (p3 a q hq).1 r.1
      omega)
  have h5 : xup (rn (dS4 D z k) (kS4 κ k)) (z + 1 + 1 + 1 + 1 + 1 + 1) (inA 25 (ones 25)) = rn (dS5 D z k) (kS5 κ k) := rn_new d5 (by simp only [kcl, kS5, kf_e, zn_o]) (fun _ _ t => kf_n t) (X (by decide) (by decide) (by decide) (by decide)) (fun a q hq hh => by
    have r := rfs_7 hh
    have := (p4 a q hq).2.1 r.1
    omega)
  have a7' : (dS6 D z k).1 7 (2 * k + 3) = z + 1 + 1 + 1 + 1 + 1 + 1 := by
    unfold dS6
    rw [dN_n (by omega)]
    exact dN_e _ _ _ _
  have h6 : xup (rn (dS5 D z k) (kS5 κ k)) (z + 1 + 1 + 1 + 1 + 1) (zCel 5 (z + 1 + 1 + 1 + 1 + 1 + 1)) = rn (dS6 D z k) (kS6 κ k) := rn_new d6 (by
    show kcl (dS6 D z k) (kS6 κ k) 6 (2 * k + 3) = _
    simp only [kcl, kS6, kf_e, zn_o, a7']
    rfl) (fun _ _ t => kf_n t) (X (by decide) (by decide) (by decide) (by decide)) (fun a q hq hh => by
    rcases rfs_6 hh with r | r
    · omega
    · have := (p5 a q hq).1 r.1
      omega)
  have b20 : (dS D z k).1 20 k = z + 1 := by
    unfold dS dS6 dS5 dS4 dS3 dS2
    rw [dN_n (by omega), dN_n (by omega), dN_n (by omega), dN_n (by omega), dN_n (by omega), dN_n (by omega)]
    exact dN_e _ _ _ _
  have b21 : (dS D z k).1 21 k = z + 1 + 1 := by
    unfold dS dS6 dS5 dS4 dS3
    rw [dN_n (by omega), dN_n (by omega), dN_n (by omega), dN_n (by omega), dN_n (by omega)]
    exact dN_e _ _ _ _
  have b6 : (dS D z k).1 6 (2 * k + 2) = z + 1 + 1 + 1 := by
    unfold dS dS6 dS5
    rw [dN_n (by omega), dN_n (by omega), dN_n (by omega)]
    exact dN_e _ _ _ _
  have b6' : (dS D z k).1 6 (2 * k + 3) = z + 1 + 1 + 1 + 1 + 1 := by
    unfold dS
    rw [dN_n (by omega)]
    exact dN_e _ _ _ _
  have h7 : xup (rn (dS6 D z k) (kS6 κ k)) z (sCel (J k) (z + 1) (z + 1 + 1) (z + 1 + 1 + 1) (z + 1 + 1 + 1 + 1 + 1)) = rn (dS D z k) (kS7 κ k) := rn_new d7 (by
    show kcl (dS D z k) (kS7 κ k) 19 k = _
    simp only [kcl, kS7, kf_e, b20, b21, b6, b6']
    rfl) (fun _ _ t => kf_n t) (X (by decide) (by decide) (by decide) (by decide)) (fun a q hq hh => by
    have r := rfs_19 hh
    have i0 := (p6 a q hq).2.2 r.1
    have r2 := r.2
    rw [i0] at r2
    have e : kS6 κ k 3 0 0 = κ 3 0 0 := by
      unfold kS6 kS5 kS4 kS3 kS2 kS1
      rw [kf_k (by decide), kf_k (by decide), kf_k (by decide), kf_k (by decide), kf_k (by decide), kf_k (by decide)]
    rw [e] at r2
    omega)
  rw [h1, h2, xup_comm _ _ _ (show z + 1 + 1 + 1 ≠ z + 1 + 1 + 1 + 1 by omega), h3, h4, xup_comm _ _ _ (show z + 1 + 1 + 1 + 1 + 1 ≠ z + 1 + 1 + 1 + 1 + 1 + 1 by omega), h5, h6, h7]
theorem dS_Dx (hL : LV D κ) (hF : FZ D κ z) (hk : N (κ 3 0 0) = k) : Dx D (dS D z k) := by
  obtain ⟨-, -, x1, x2, x3, x4, x5, x6, x7⟩ := dS_all hL hF hk
  exact (((((x1.tr x2).tr x3).tr x4).tr x5).tr x6).tr x7
theorem dS_new (hL : LV D κ) (hF : FZ D κ z) (hk : N (κ 3 0 0) = k) : kI (dS D z k) 19 k ∧ kI (dS D z k) 20 k ∧ kI (dS D z k) 21 k ∧ kI (dS D z k) 6 (2 * k + 2) ∧ kI (dS D z k) 7 (2 * k + 2) ∧ kI (dS D z k) 6 (2 * k + 3) ∧ kI (dS D z k) 7 (2 * k + 3) := by
  obtain ⟨-, -, x1, x2, x3, x4, x5, x6, x7⟩ := dS_all hL hF hk
  exact ⟨dN_new _ _ _ _, ((((((x2.tr x3).tr x4).tr x5).tr x6).tr x7).1 _ _ (dN_new _ _ _ _)).2, (((((x3.tr x4).tr x5).tr x6).tr x7).1 _ _ (dN_new _ _ _ _)).2, (((x5.tr x6).tr x7).1 _ _ (dN_new _ _ _ _)).2, ((((x4.tr x5).tr x6).tr x7).1 _ _ (dN_new _ _ _ _)).2, (x7.1 _ _ (dN_new _ _ _ _)).2, ((x6.tr x7).1 _ _ (dN_new _ _ _ _)).2⟩
theorem dS_WD (hL : LV D κ) (hF : FZ D κ z) (hk : N (κ 3 0 0) = k) : WD (dS D z k) := by
  obtain ⟨⟨d1, d2, d3, d4, d5, d6, d7⟩, -, -⟩ := dS_all hL hF hk
  exact dN_WD (dN_WD (dN_WD (dN_WD (dN_WD (dN_WD (dN_WD hL.1 d1) d2) d3) d4) d5) d6) d7
theorem kS8_3 (κ : kS) (k : Nat) : kS8 κ k 3 0 0 = J (k + 1) := by
  unfold kS8
  rw [kf_e]
theorem dS_LV (hL : LV D κ) (hF : FZ D κ z) (hk : N (κ 3 0 0) = k) (hb : k < 200) : LV (dS D z k) (kS8 κ k) := by
  have x := dS_Dx hL hF hk
  have nw := dS_new hL hF hk
  have e3 : N (kS8 κ k 3 0 0) = k + 1 := by rw [kS8_3]; exact J_nat (by omega)
  obtain ⟨x1, x9, x10, x22⟩ := kS8_x κ k
  refine ⟨dS_WD hL hF hk, fun kd h h6 h7 => (x.1 _ _ (hL.2.1 kd h h6 h7)).2, fun i hi => ?_, fun m hm => ?_, fun j hj => ?_, fun d hd h0 => ?_⟩
  · rw [e3] at hi
    by_cases g : i < 2 * k + 2
    · have := hL.2.2.1 i (by omega)
      exact ⟨(x.1 _ _ this.1).2, (x.1 _ _ this.2).2⟩
    · by_cases g2 : i = 2 * k + 2
      · rw [g2]; exact ⟨nw.2.2.2.1, nw.2.2.2.2.1⟩
      · rw [show i = 2 * k + 3 by omega]; exact ⟨nw.2.2.2.2.2.1, nw.2.2.2.2.2.2⟩
  · rw [x1] at hm
    have l := hL.2.2.2.1 m hm
    rw [x10]
    exact ⟨(x.1 _ _ l.1).2, (x.1 _ _ l.2.1).2, (x.1 _ _ l.2.2.1).2, fun p hp => ⟨(x.1 _ _ (l.2.2.2.1 p hp).1).2, (x.1 _ _ (l.2.2.2.1 p hp).2.1).2, (x.1 _ _ (l.2.2.2.1 p hp).2.2).2⟩, fun w hw => ⟨(x.1 _ _ (l.2.2.2.2 w hw).1).2, (x.1 _ _ (l.2.2.2.2 w hw).2.1).2, (x.1 _ _ (l.2.2.2.2 w hw).2.2).2⟩⟩
  · rw [e3] at hj
    by_cases g : j < k
    · have := hL.2.2.2.2.1 j (by omega)
      exact ⟨(x.1 _ _ this.1).2, (x.1 _ _ this.2.1).2, (x.1 _ _ this.2.2).2⟩
    · rw [show j = k by omega]
      exact ⟨nw.1, nw.2.1, nw.2.2.1⟩
  · rw [x9] at h0 ⊢
    rw [x22]
    have l := hL.2.2.2.2.2 d hd h0
    exact ⟨(x.1 _ _ l.1).2, (x.1 _ _ l.2.1).2, fun t => (x.1 _ _ (l.2.2 t)).2⟩
theorem dS_In {a : Nat} (ha : z + 7 ≤ a ∨ a < z) : (dS D z k).2.1 a = D.2.1 a := by
  unfold dS dS6 dS5 dS4 dS3 dS2 dS1
  rw [dN_In (by omega), dN_In (by omega), dN_In (by omega), dN_In (by omega), dN_In (by omega), dN_In (by omega), dN_In (by omega)]
theorem lq_up {κ' : kS} (x : kxd κ κ') (h3 : N (κ 3 0 0) ≤ N (κ' 3 0 0)) {kd ix : Nat} (l : lq κ kd ix) : lq κ' kd ix := by
  obtain ⟨x1, x9, x10, x22⟩ := x
  unfold lq at l ⊢
  rw [x1, x9, x10, x10]
  exact ⟨fun t => by have := l.1 t; omega, fun t => by have := l.2.1 t; omega, l.2.2.1, l.2.2.2.1, l.2.2.2.2.1, l.2.2.2.2.2.1, l.2.2.2.2.2.2⟩
theorem dS_FZ (hL : LV D κ) (hF : FZ D κ z) (hk : N (κ 3 0 0) = k) (hb : k < 200) : FZ (dS D z k) (kS8 κ k) (z + 7) := by
  have e3 : N (kS8 κ k 3 0 0) = k + 1 := by rw [kS8_3]; exact J_nat (by omega)
  have up : ∀ kd ix, lq κ kd ix → lq (kS8 κ k) kd ix := fun kd ix l => lq_up (kS8_x κ k) (by rw [e3]; omega) l
  have st : ∀ {E : kD} {a kd ix : Nat}, (∀ a q, E.2.1 a = some q → lq (kS8 κ k) q.1 q.2) → lq (kS8 κ k) kd ix → ∀ b q, (dN E a kd ix).2.1 b = some q → lq (kS8 κ k) q.1 q.2 := fun {E a kd ix} h l b q hq => by
    by_cases hb : b = a
    · rw [hb, dN_Ie] at hq
      cases hq
      exact l
    · rw [dN_In hb] at hq
      exact h b q hq
  have l19 : lq (kS8 κ k) 19 k := by unfold lq; rw [e3]; omega
  have l20 : lq (kS8 κ k) 20 k := by unfold lq; rw [e3]; omega
  have l21 : lq (kS8 κ k) 21 k := by unfold lq; rw [e3]; omega
  have l6 : lq (kS8 κ k) 6 (2 * k + 2) := by unfold lq; rw [e3]; omega
  have l7 : lq (kS8 κ k) 7 (2 * k + 2) := by unfold lq; rw [e3]; omega
  have l6' : lq (kS8 κ k) 6 (2 * k + 3) := by unfold lq; rw [e3]; omega
  have l7' : lq (kS8 κ k) 7 (2 * k + 3) := by unfold lq; rw [e3]; omega
  refine ⟨fun a ha => by rw [dS_In (by omega)]; exact hF.1 a (by omega), ?_, fun d h0 => ?_⟩
  · exact st (st (st (st (st (st (st (fun a q hq => up _ _ (hF.2.1 a q hq)) l20) l21) l7) l6) l7') l6') l19
  · obtain ⟨x1, x9, x10, x22⟩ := kS8_x κ k
    rw [x9] at h0 ⊢
    exact hF.2.2 d h0
theorem dS_pq (hL : LV D κ) (hF : FZ D κ z) (hk : N (κ 3 0 0) = k) (hb : k < 200) : pq (rn (dS D z k) (kS7 κ k)) (D.1 3 0) 7 (J k) z 2 = some (rn (dS D z k) (kS8 κ k)) := by
  have x := dS_Dx hL hF hk
  have nw := dS_new hL hF hk
  have k3 := x.1 3 0 (hL.2.1 3 (by decide) (by decide) (by decide))
  have a19 : (dS D z k).1 19 k = z := dN_e _ _ _ _
  have e7 : kS7 κ k 3 0 0 = κ 3 0 0 := by
    unfold kS7 kS6 kS5 kS4 kS3 kS2 kS1
    rw [kf_k (by decide), kf_k (by decide), kf_k (by decide), kf_k (by decide), kf_k (by decide), kf_k (by decide), kf_k (by decide)]
  have hc : kc (rn (dS D z k) (kS7 κ k)) z 2 = true := by
    have := (rd19 (κ := kS7 κ k) nw.1).1
    rw [a19] at this
    exact this
  rw [← k3.1]
  unfold pq
  rw [rn_at k3.2]
  simp only [kcl, rfA]
  rw [if_pos trivial, if_pos (xin_J hb (by decide)), if_pos hc, J_nat (by omega)]
  congr 1
  refine rn_put (dS_WD hL hF hk) k3.2 ?_ (fun _ _ t => kf_n t) (kxd_kf (by decide) (by decide) (by decide) (fun t => absurd t (by decide)))
  show kcl (dS D z k) (kS8 κ k) 3 0 = _
  simp only [kcl, rfA, kS8_3, e7, hk]
  congr 8
  funext i
  unfold va_up
  dsimp only
  rw [show N (J (k + 1)) = k + 1 from J_nat (by omega)]
  by_cases g : i = k
  · rw [if_pos (by omega), if_pos g, g, a19]
  · rw [if_neg g]
    by_cases g2 : i < k
    · rw [if_pos (by omega), if_pos g2]
    · rw [if_neg (by omega), if_neg g2]
end SN
