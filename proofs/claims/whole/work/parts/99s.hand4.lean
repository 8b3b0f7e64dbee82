/-! THE HAND's calls: hand, within -/
theorem zOK_cg {Z Y : Nat → Int32} (e : ∀ i j, i < 4 → j < 4 → Y (5 * i + j) = Z (5 * i + j)) (h : zOK Z) : zOK Y := by
  have en : nz Y = nz Z := by
    funext i j
    unfold nz zi
    by_cases g : i < 4 ∧ j < 4
    · rw [if_pos g, if_pos g, e i j g.1 g.2]
    · rw [if_neg g, if_neg g]
  have ez : ∀ i j, i < 4 → j < 4 → zi Y i j = zi Z i j := fun i j hi hj => by unfold zi; rw [e i j hi hj]
  obtain ⟨a, b, c, d, f⟩ := h
  refine ⟨fun i j hi hj => by rw [ez i j hi hj]; exact a i j hi hj, fun i hi => by rw [ez i i hi hi]; exact b i hi, fun j hj => by rw [ez 0 j (by omega) hj]; exact c j hj, ?_, ?_⟩
  · rw [en]; exact d
  · rw [en]; exact f
theorem zOK_times {Z : Nat → Int32} (e : ∀ i j, i < 4 → j < 4 → Z (5 * i + j) = if i = j ∨ i = 0 then 1 else 1000000) : zOK Z := by
  have hA := AN_is
  have o : (1 : Int32).toInt = 1 := by decide
  have a : (1000000 : Int32).toInt = AN := by decide
  have ez : ∀ i j, i < 4 → j < 4 → zi Z i j = if i = j ∨ i = 0 then 1 else AN := fun i j hi hj => by
    unfold zi
    rw [e i j hi hj]
    split
    · exact o
    · exact a
  have en : ∀ i j, i < 4 → j < 4 → nz Z i j = if i = j ∨ i = 0 then 1 else AN := fun i j hi hj => by rw [nz_in _ hi hj]; exact ez i j hi hj
  refine ⟨fun i j hi hj => ?_, fun i hi => ?_, fun j hj => ?_, fun l hl i j hi hj f1 f2 => ?_, fun ⟨k, hk, hf⟩ => ?_⟩
  · rw [ez i j hi hj]
    split
    · exact Or.inr (by omega)
    · exact Or.inl rfl
  · rw [ez i i hi hi, if_pos (Or.inl rfl)]
  · rw [ez 0 j (by omega) hj, if_pos (Or.inr rfl)]
    omega
  · rw [en i l hi hl] at f1 ⊢
    rw [en l j hl hj] at f2 ⊢
    rw [en i j hi hj]
    have g1 : i = l ∨ i = 0 := Classical.byContradiction (fun t => by rw [if_neg t] at f1; omega)
    have g2 : l = j ∨ l = 0 := Classical.byContradiction (fun t => by rw [if_neg t] at f2; omega)
    rw [if_pos g1, if_pos g2, if_pos (by omega), nps_one]
    omega
  · have hk0 := hk.1
    rw [en k 0 hk.2 (by omega), if_neg (by omega)] at hf
    omega
theorem zOK_ones {Z : Nat → Int32} (e : ∀ i j, i < 4 → j < 4 → Z (5 * i + j) = 1) : zOK Z := by
  have hA := AN_is
  have o : (1 : Int32).toInt = 1 := by decide
  have ez : ∀ i j, i < 4 → j < 4 → zi Z i j = 1 := fun i j hi hj => by
    unfold zi
    rw [e i j hi hj]
    exact o
  have en : ∀ i j, i < 4 → j < 4 → nz Z i j = 1 := fun i j hi hj => by rw [nz_in _ hi hj]; exact ez i j hi hj
  refine ⟨fun i j hi hj => ?_, fun i hi => ez i i hi hi, fun j hj => ?_, fun l hl i j hi hj _ _ => ?_, fun _ => ⟨1, ⟨by omega, by omega⟩, ?_⟩⟩
  · rw [ez i j hi hj]
    exact Or.inr (by omega)
  · rw [ez 0 j (by omega) hj]
    omega
  · rw [en i l hi hl, en l j hl hj, en i j hi hj, nps_one]
    omega
  · rw [en 1 0 (by omega) (by omega)]
    omega
theorem four4 {i : Nat} (hi : i < 4) : i = 0 ∨ i = 1 ∨ i = 2 ∨ i = 3 := by omega
theorem caz_is (f : Nat → Int32) {i j : Nat} (hi : i < 4) (hj : j < 4) : caz 4 f (i * 4 + j) = if i = j ∨ i = 0 then 1 else 1000000 := by
  rcases four4 hi with t | t | t | t <;> subst t <;> rcases four4 hj with t | t | t | t <;> subst t <;> rfl
theorem atz_is (Z : Nat → Int32) {i j : Nat} (hi : i < 4) (hj : j < 4) : atz Z (5 * i + j) = if i = j ∨ i = 0 then 1 else 1000000 := by
  rcases four4 hi with t | t | t | t <;> subst t <;> rcases four4 hj with t | t | t | t <;> subst t <;> rfl
section HCall4
variable {D : kD} {κ : kS} {σ : mS} {τ : mL} {n : Nat}
/-- THE HAND becomes q -/
theorem HC_be {q' q : zQ} (H : HR n κ σ) (e : q'.2 = 0 ∧ q.2 = 0) (c : cagr 4 q'.1 q.1) (g : zOK q.1) {f : Nat → Option (Int32 × xH)} {g' : Nat → Option (Int32 × mS × mL)} (e1 : Ev f (0, rn D (kz κ 1 q'))) {ρ : mS} (s : sx [0, 16, 18, 19] ρ σ) (e2 : Ev g' (0, ez (hL ρ q) q, τ)) : HC D κ σ τ n f g' := by
  have o := hO_of (q := q) s
  have r : qR (n + 1) q' q := ⟨Or.inl e.2, e.1.trans e.2.symm, fun _ => ⟨c, zOK_hN g _⟩⟩
  refine ⟨0, kz κ 1 q', _, e1, e2, ⟨?_, ?_⟩, hfk_kz κ _, o.1⟩
  · rw [kz_q]
    exact qR_hO r o
  · rw [kz_k (by decide) (by decide)]
    exact H.2
theorem ez_self (σ : mS) : σ = ez σ (σ 15, σ 17 0) := (ez_id σ).symm
theorem hand_h (h : YW D κ σ) (p : PW κ σ) (H : HR n κ σ) (S : ZS σ) (x y : Int32) : HC D κ σ τ n (fun m => Ti_hand_f m (D.1 0 0) x y (rn D κ)) (fun m => Mo_hand_f m x y σ τ) := by
  have k0 := h.1.2.1 0 (by decide) (by decide) (by decide)
  have k1 := h.1.k1
  have z1 := h.1.z1
  have i1 := isN x 0 3 (u := 0) (v := 3) (by decide) (by decide)
  have sx0 : sx [0, 16, 18, 19] (su (su σ 0 0 0) 16 0 4) σ := (sx.su _ _ _ (by decide)).trans (sx.su _ _ _ (by decide))
  by_cases hx : 0 ≤ x.toInt ∧ x.toInt ≤ 3
  · rw [if_pos hx] at i1
    have n1 : ¬ (Mo_isIn_f (Int32.toInt64 x) 0 3 = 0) := by rw [i1]; decide
    have ex := J_ti hx.1
    have hi : x.toInt.toNat < 4 := by omega
    generalize x.toInt.toNat = i at ex hi
    subst ex
    rcases four4 hi with t | t | t | t <;> subst t
    · -- all times
      refine HC_be (q' := (caz 4 (κ 7 1), 0)) (q := (atz (su σ 0 0 0 15), 0)) H ⟨rfl, rfl⟩ (fun i j hi hj => (caz_is (κ 7 1) hi hj).trans (atz_is (su σ 0 0 0 15) hi hj).symm) (zOK_times (fun i j hi hj => atz_is _ hi hj)) ?_ sx0 ?_
      · unfold Ti_hand_f
        refine Ev.pos rfl (Ev.ob (Ev.cn (a := some (D.1 6 1)) (by simp only [rd0 k0])) (Ev.obs (Ev.pos (rd6 z1.1).1 ?_)))
        exact Ev.ob (zo_times h.1.1 z1.1 z1.2) Ev.ret
      · unfold Mo_hand_f
        simp only [bnd]
        refine Ev.neg n1 (Ev.neg (by decide) (Ev.pos rfl ?_))
        have a := allTimes_q (σ := su σ 0 0 0) (τ := τ) (q := (su σ 0 0 0 15, su σ 0 0 0 17 0)) (x1 := 4) (x2 := 0) (x3 := 0)
        rw [ez_id] at a
        refine Ev.ob a ?_
        exact Ev.ob (lay_q (Or.inl rfl)) Ev.ret
    · refine HC_be (q' := (fun i => if i < 16 then 1 else κ 7 1 i, 0)) (q := (fun i => if i < 25 then 1 else su σ 0 0 0 15 i, 0)) H ⟨rfl, rfl⟩ (fun i j hi hj => ?_) (zOK_ones (fun i j hi hj => if_pos (by omega))) ?_ sx0 ?_
      · show (if i * 4 + j < 16 then (1 : Int32) else _) = if 5 * i + j < 25 then 1 else _
        rw [if_pos (by omega), if_pos (by omega)]
      · unfold Ti_hand_f
        refine Ev.neg (by decide) (Ev.pos rfl (Ev.ob (Ev.cn (a := some (D.1 6 1)) (by simp only [rd0 k0])) (Ev.obs (Ev.pos (rd6 z1.1).1 ?_))))
        exact Ev.ob (zo_zero h.1.1 z1.1 z1.2) Ev.ret
      · unfold Mo_hand_f
        simp only [bnd]
        refine Ev.neg n1 (Ev.neg (by decide) (Ev.neg (by decide) (Ev.neg (by decide) ?_)))
        have a := allNull_q (σ := su σ 0 0 0) (τ := τ) (q := (su σ 0 0 0 15, su σ 0 0 0 17 0)) (x1 := 4) (x2 := 0)
        rw [ez_id] at a
        refine Ev.ob a (Ev.neg (by decide) ?_)
        dsimp only
        rw [ez_u17]
        exact Ev.ob (lay_q (Or.inl rfl)) Ev.ret
    · rcases st_or σ y with ⟨k, hk, rfl⟩ | hy
      · obtain ⟨s1, k19, s2⟩ := PW.st_in (τ := τ) h p hk
        have hk3 : k < N (κ 3 0 0) := by have := p.2.2.2.1; omega
        have hb := p.2.1.2
        have zb := h.1.zb hk3
        have sr := (p.2.2.2.2.2.1 k hk).1
        have c := sr.2.2.2.2.2.2.2.1.1
        have c0 := sr.2.2.2.2.2.2.2.1.2
        have as := fun m => zo_as (κ := κ) h.1.1 z1.1 z1.2 zb.1 zb.2 (by rw [zn_e]; rfl) (by omega) (Or.inl c0) m
        rw [c0] at as
        refine HC_be (q' := (fun i => if i < zn 1 * zn 1 then κ 7 (2 * k + 2) i else κ 7 1 i, 0)) (q := (szq (su σ 0 0 0 25) k (su σ 0 0 0 15), 0)) H ⟨rfl, rfl⟩ (fun i j hi hj => ?_) (zOK_cg (fun i j hi hj => ?_) (S k hk)) ?_ sx0 ?_
        · show (if i * 4 + j < zn 1 * zn 1 then κ 7 (2 * k + 2) (i * 4 + j) else κ 7 1 (i * 4 + j)) = if 5 * i + j < 25 then su σ 0 0 0 25 (25 * k + (5 * i + j)) else _
          rw [show zn 1 * zn 1 = 16 from rfl, if_pos (by omega), if_pos (by omega), su_n (by decide)]
          exact c i j hi hj
        · show (if 5 * i + j < 25 then su σ 0 0 0 25 (25 * k + (5 * i + j)) else _) = σ 25 (25 * k + (5 * i + j))
          rw [if_pos (by omega), su_n (by decide)]
        · unfold Ti_hand_f
          refine Ev.neg (by decide) (Ev.neg (by decide) (Ev.pos rfl ?_))
          refine Ev.ob (Ev.cn (a := some (D.1 1 0)) (by simp only [rd0 k0])) (Ev.obs (Ev.pos (rd1 k1).1 (Ev.ob ⟨0, fun m _ => s1 m⟩ (Ev.bn (Ev.oeS ?_)))))
          refine Ev.ob (Ev.cn (a := some (D.1 6 1)) (by simp only [rd0 k0])) (Ev.ob (Ev.cn (a := some (D.1 6 (2 * k + 2))) (by simp only [rd19 k19.1])) (Ev.obs (Ev.pos (rd6 z1.1).1 ?_)))
          exact Ev.ob ⟨0, fun m _ => as m⟩ Ev.ret
        · unfold Mo_hand_f
          simp only [bnd]
          refine Ev.neg n1 (Ev.pos rfl (Ev.ob ⟨0, fun m _ => s2 m⟩ (Ev.neg i10 (Ev.neg (by decide) (Ev.pos rfl ?_)))))
          have a := showZone_q (σ := su σ 0 0 0) (τ := τ) (q := (su σ 0 0 0 15, su σ 0 0 0 17 0)) (k := k) (by omega) (x2 := 0)
          rw [ez_id] at a
          refine Ev.ob a ?_
          exact Ev.ob (lay_q (Or.inl rfl)) Ev.ret
      · obtain ⟨s1, s2⟩ := PW.st_out (τ := τ) h p hy
        refine HC_no H ?_ ?_
        · unfold Ti_hand_f
          refine Ev.neg (by decide) (Ev.neg (by decide) (Ev.pos rfl ?_))
          exact Ev.ob (Ev.cn (a := some (D.1 1 0)) (by simp only [rd0 k0])) (Ev.obs (Ev.pos (rd1 k1).1 (Ev.ob ⟨0, fun m _ => s1 m⟩ (Ev.bn (Ev.oeN Ev.ret)))))
        · unfold Mo_hand_f
          simp only [bnd]
          exact Ev.neg n1 (Ev.pos rfl (Ev.ob ⟨0, fun m _ => s2 m⟩ (Ev.pos rfl Ev.ret)))
    · have ek : ku κ 6 1 2 1 = kz κ 1 (κ 7 1, 1) := by
        unfold kz
        have e7 : kf κ 7 1 (κ 7 1) = κ := by
          funext a b
          by_cases t : a = 7 ∧ b = 1
          · rw [t.1, t.2, kf_e]
          · rw [kf_n t]
        dsimp only
        rw [e7]
      have o : hO σ (fun i => if i < 25 then 1 else su σ 0 0 0 15 i, 1) _ := hO_of sx0
      refine ⟨0, kz κ 1 (κ 7 1, 1), _, ?_, ?_, ⟨?_, ?_⟩, hfk_kz κ _, o.1⟩
      · unfold Ti_hand_f
        refine Ev.neg (by decide) (Ev.neg (by decide) (Ev.neg (by decide) (Ev.pos rfl ?_)))
        refine Ev.ob (Ev.cn (a := some (D.1 6 1)) (by simp only [rd0 k0])) (Ev.obs (Ev.ob (Ev.cn (a := rn D (kz κ 1 (κ 7 1, 1))) (by rw [rw6_2 h.1.1 z1.1, ek])) Ev.ret))
      · unfold Mo_hand_f
        simp only [bnd]
        refine Ev.neg n1 (Ev.neg (by decide) (Ev.neg (by decide) (Ev.neg (by decide) ?_)))
        have a := allNull_q (σ := su σ 0 0 0) (τ := τ) (q := (su σ 0 0 0 15, su σ 0 0 0 17 0)) (x1 := 4) (x2 := 0)
        rw [ez_id] at a
        refine Ev.ob a (Ev.pos rfl ?_)
        dsimp only
        rw [ez_u17]
        exact Ev.ob (lay_q (Or.inr rfl)) Ev.ret
      · rw [kz_q]
        exact qR_hO (qR_dead rfl rfl) o
      · rw [kz_k (by decide) (by decide)]
        exact H.2
  · rw [if_neg hx] at i1
    refine HC_no H ?_ ?_
    · unfold Ti_hand_f
      have nn : ∀ j, j < 4 → x ≠ J j := fun j hj t => hx (by rw [t, J_int (by omega)]; omega)
      exact Ev.neg (nn 0 (by omega)) (Ev.neg (nn 1 (by omega)) (Ev.neg (nn 2 (by omega)) (Ev.neg (nn 3 (by omega)) Ev.ret)))
    · unfold Mo_hand_f
      simp only [bnd]
      exact Ev.pos i1 Ev.ret
end HCall4
