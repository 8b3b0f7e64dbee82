/-! toss, element, bound, handBound -/
section SH2
variable {D : kD} {κ : kS} {σ : mS} {τ : mL} {x : Nat}
theorem neg_z {u : Int32} : -u = 0 ↔ u = 0 := by
  constructor
  · intro h
    have := congrArg (fun z => -z) h
    simpa using this
  · intro h
    rw [h]
    rfl
/-- a call that leaves all as it was, but may have made a cell -/
theorem caught_is {n : Nat} {a : Nat} {h : xH} {fs : List Value} {u : Int32} (hc : h a = some (.inr (7, fs))) (hv : fs[2]? = some (.int u)) : Ti_caughtWord_f n (some a) h = some ((if (if 0 ≤ u then u else -u) = 0 then -15 else (if 0 ≤ u then u else -u)), h) := by
  have z : (0 : Int32).toInt = 0 := by decide
  unfold Ti_caughtWord_f
  by_cases g : 0 ≤ u
  · have t0 : (if 0 ≤ u then u else -u) = u := if_pos g
    rw [t0]
    by_cases g2 : u ≤ 0
    · have e : u = 0 := by
        rw [i32_eq]
        rw [i32_le] at g g2
        omega
      have t : Ti_throwFailure_f n u h = some (0, 0, h) := by
        unfold Ti_throwFailure_f
        rw [if_pos g2, if_pos g]
      simp only [obd, gi_of hc hv, t]
      rw [if_pos e]
      rfl
    · have e : ¬ (u = 0) := fun t => g2 (by rw [t]; decide)
      have t : Ti_throwFailure_f n u h = some (0, 2, h) := by
        unfold Ti_throwFailure_f
        rw [if_neg g2]
      simp only [obd, gi_of hc hv, t]
      rw [if_neg e]
      rfl
  · have g2 : u ≤ 0 := by
      rw [i32_le] at g ⊢
      omega
    have e : ¬ (u = 0) := fun t => g (by rw [t]; decide)
    have t0 : (if 0 ≤ u then u else -u) = -u := if_neg g
    have t : Ti_throwFailure_f n u h = some (0, 3, h) := by
      unfold Ti_throwFailure_f
      rw [if_pos g2, if_neg g]
    rw [t0]
    simp only [obd, gi_of hc hv, t]
    rw [if_neg (fun q => e (neg_z.mp q))]
    rfl
theorem toss_ro (h : YW D κ σ) (S : SH D κ σ τ) (y : Int32) : RO D κ σ τ (fun n => Ti_toss_f n (D.1 0 0) y (rn D κ)) (fun n => Mo_toss_f n y σ τ) := by
  have k0 := h.1.2.1 0 (by decide) (by decide) (by decide)
  have k9 := h.1.2.1 9 (by decide) (by decide) (by decide)
  rcases sh_or y with ⟨d, hd, rfl, e1, e2⟩ | ⟨e1, e2⟩
  · have nd : Int32.toNatClampNeg (J d) = d := J_nat (by omega)
    have xd : xin (J d) 8 = true := xin_J hd (by decide)
    have s46 : su σ 0 0 0 46 d = σ 46 d := su_n (by decide)
    have s49 : su σ 0 0 0 49 d = σ 49 d := su_n (by decide)
    have preR : ∀ {R}, Ev (fun n : Nat => if σ 46 d = 0 then some ((-11 : Int32), su σ 0 0 0, τ) else if σ 46 d = 1 then (if σ 49 d = 0 then some (-15, su σ 0 0 0, τ) else some (σ 49 d, su σ 0 0 0, τ)) else some (-12, su σ 0 0 0, τ)) R → Ev (fun n => Mo_toss_f n (J d) σ τ) R := fun {R} e => by
      unfold Mo_toss_f
      simp only [bnd, nd, xd, if_true, s46, s49, e2]
      exact Ev.neg (by decide) e
    rcases S.1 d hd with ⟨a, b⟩ | ⟨a, b⟩
    · refine ⟨-11, ?_, preR (Ev.pos b Ev.ret)⟩
      unfold Ti_toss_f
      refine Ev.ob ⟨0, fun n _ => e1 n _⟩ (Ev.neg i10 (Ev.ob (Ev.cn (a := some (D.1 9 0)) (by simp only [rd0 k0])) (Ev.obs (Ev.ob (Ev.cn (a := none) (by rw [rq9 k9 hd, if_pos a])) (Ev.oeN Ev.ret)))))
    · obtain ⟨k22, k23, -⟩ := h.1.2.2.2.2.2 d hd a
      have q9 : aq (rn D κ) (D.1 9 0) 8 (J d) = some (some (D.1 22 (N (κ 9 1 d)))) := by rw [rq9 k9 hd, if_neg a]
      generalize N (κ 9 1 d) = x at b k22 k23 q9
      have pre : ∀ {R}, Ev (fun n => (if kc (rn D κ) (D.1 22 x) 6 = true then some (((-12) : Int32), rn D κ) else (if kc (rn D κ) (D.1 22 x) 7 = true then (if kc (rn D κ) (D.1 22 x) 7 = true then obd (Ti_caughtWord_f n (some (D.1 22 x)) (rn D κ)) (fun r42 => some (r42.1, r42.2)) else none) else (if kc (rn D κ) (D.1 22 x) 8 = true then some (((-12) : Int32), rn D κ) else (if kc (rn D κ) (D.1 22 x) 9 = true then some (((-12) : Int32), rn D κ) else none))))) R → Ev (fun n => Ti_toss_f n (D.1 0 0) (J d) (rn D κ)) R := fun {R} e => by
        unfold Ti_toss_f
        exact Ev.ob ⟨0, fun n _ => e1 n _⟩ (Ev.neg i10 (Ev.ob (Ev.cn (a := some (D.1 9 0)) (by simp only [rd0 k0])) (Ev.obs (Ev.ob (Ev.cn q9) (Ev.oeS (Ev.ob (Ev.cn (a := some (D.1 9 0)) (by simp only [rd0 k0])) (Ev.obs (Ev.ob (Ev.cn q9) (Ev.oeS e)))))))))
      rcases b with ⟨b1, b2, b3, b4⟩ | ⟨b1, b2, b3⟩ | ⟨b1, b2, -⟩ | ⟨b1, b2, -⟩
      · have hc := h22W (κ := κ) k22 b2
        have e := fun n => caught_is (n := n) (u := κ 22 x 2) hc rfl
        rw [← b4] at e
        refine ⟨(if σ 49 d = 0 then -15 else σ 49 d), pre (Ev.neg (by rw [kc_of hc]; decide) (Ev.pos (by rw [kc_of hc]; decide) (Ev.pos (by rw [kc_of hc]; decide) (Ev.ob ⟨0, fun n _ => e n⟩ Ev.ret)))), preR (Ev.neg (by rw [b1]; decide) (Ev.pos b1 ?_))⟩
        by_cases g : σ 49 d = 0
        · have t : (if σ 49 d = 0 then (-15 : Int32) else σ 49 d) = -15 := if_pos g
          rw [t]
          exact Ev.pos g Ev.ret
        · have t : (if σ 49 d = 0 then (-15 : Int32) else σ 49 d) = σ 49 d := if_neg g
          rw [t]
          exact Ev.neg g Ev.ret
      · have hc := h22P (κ := κ) k22 b2
        exact ⟨-12, pre (Ev.pos (by rw [kc_of hc]; decide) Ev.ret), preR (Ev.neg (by rw [b1]; decide) (Ev.neg (by rw [b1]; decide) Ev.ret))⟩
      · have hc := h22S (κ := κ) k22 b2
        exact ⟨-12, pre (Ev.neg (by rw [kc_of hc]; decide) (Ev.neg (by rw [kc_of hc]; decide) (Ev.pos (by rw [kc_of hc]; decide) Ev.ret))), preR (Ev.neg (by rw [b1]; decide) (Ev.neg (by rw [b1]; decide) Ev.ret))⟩
      · have hc := h22L (κ := κ) k22 b2
        exact ⟨-12, pre (Ev.neg (by rw [kc_of hc]; decide) (Ev.neg (by rw [kc_of hc]; decide) (Ev.neg (by rw [kc_of hc]; decide) (Ev.pos (by rw [kc_of hc]; decide) Ev.ret)))), preR (Ev.neg (by rw [b1]; decide) (Ev.neg (by rw [b1]; decide) Ev.ret))⟩
  · refine ⟨-1, ?_, ?_⟩
    · unfold Ti_toss_f
      exact Ev.ob ⟨0, fun n _ => e1 n _⟩ (Ev.pos rfl Ev.ret)
    · unfold Mo_toss_f
      simp only [bnd]
      exact Ev.pos e2 Ev.ret
theorem bound_rt (h : YW D κ σ) (p : PW κ σ) (y u v : Int32) : RTh Int32 D κ σ τ (fun n => Ti_bound_f n (D.1 0 0) y u v (rn D κ)) (fun n => Mo_bound_f n y u v σ τ) := by
  have k0 := h.1.2.1 0 (by decide) (by decide) (by decide)
  have k1 := h.1.k1
  have b1 := fun m => isCk m u (rn D κ)
  have b2 := fun m => isCk m v (rn D κ)
  have i1 := isN u 0 3 (u := 0) (v := 3) (by decide) (by decide)
  have i2 := isN v 0 3 (u := 0) (v := 3) (by decide) (by decide)
  have j1 : (1 : Int32) = J 1 := rfl
  have j0 : (0 : Int32) = J 0 := rfl
  rcases st_or σ y with ⟨k, hk, rfl⟩ | hy
  · obtain ⟨s1, k19, -⟩ := PW.st_in (τ := τ) h p hk
    have s2 := fun n => isState_in (τ := τ) p.2.1 hk n
    have hk3 : k < N (κ 3 0 0) := by have := p.2.2.2.1; omega
    have hb := p.2.1.2
    have zb := h.1.zb hk3
    have sr := (p.2.2.2.2.2.1 k hk).1
    by_cases hu : 0 ≤ u.toInt ∧ u.toInt ≤ 3
    · rw [if_pos hu] at b1 i1
      by_cases hv : 0 ≤ v.toInt ∧ v.toInt ≤ 3
      · rw [if_pos hv] at b2 i2
        have hi : u.toInt.toNat < 4 := by omega
        have hj : v.toInt.toNat < 4 := by omega
        have eu := J_ti hu.1
        have ev := J_ti hv.1
        generalize u.toInt.toNat = i at eu hi
        generalize v.toInt.toNat = j at ev hj
        subst eu ev
        have zk := rn_zoA (κ := κ) zb.1 zb.2
        rw [zn_e] at zk
        have at1 := fun n => at_A zk (by omega) hi hj n
        refine ⟨κ 7 (2 * k + 2) (i * 4 + j), 0, σ 25 (25 * k + (5 * i + j)), ?_, ?_, by omega, fun _ => sr.2.2.2.2.2.2.2.1.1 i j hi hj⟩
        · unfold Ti_bound_f
          refine Ev.ob (Ev.cn (a := some (D.1 1 0)) (by simp only [rd0 k0])) (Ev.obs (Ev.pos (rd1 k1).1 (Ev.ob ⟨0, fun m _ => s1 m⟩ (Ev.bn (Ev.oeS (Ev.ob ⟨0, fun m _ => b1 m⟩ (Ev.neg i10 (Ev.ob ⟨0, fun m _ => b2 m⟩ (Ev.neg i10 ?_)))))))))
          exact Ev.ob (Ev.cn (a := some (D.1 6 (2 * k + 2))) (by simp only [rd19 k19.1])) (Ev.obs (Ev.pos (rd6 zb.1).1 (Ev.ob ⟨0, fun m _ => at1 m⟩ Ev.ret)))
        · unfold Mo_bound_f
          refine Ev.ob ⟨0, fun m _ => s2 m⟩ (Ev.neg i10 (Ev.neg (by rw [i1]; decide) (Ev.neg (by rw [i2]; decide) (Ev.bn ?_))))
          have ix : (25 : Int32) * J k + (5 : Int32) * J i + J j = J (25 * k + (5 * i + j)) := by
            rw [J25, J5, J_mul, J_mul, J_add, J_add, Nat.add_assoc]
          have e : Int32.toNatClampNeg (J (25 * k + (5 * i + j))) = 25 * k + (5 * i + j) := J_nat (by omega)
          rw [ix, e, su_n (by decide)]
          exact Ev.pos (xin_J (by omega) (by decide)) Ev.ret
      · rw [if_neg hv] at b2 i2
        refine ⟨0, 1, 0, ?_, ?_, by omega, fun t => absurd t (by decide)⟩
        · unfold Ti_bound_f
          exact Ev.ob (Ev.cn (a := some (D.1 1 0)) (by simp only [rd0 k0])) (Ev.obs (Ev.pos (rd1 k1).1 (Ev.ob ⟨0, fun m _ => s1 m⟩ (Ev.bn (Ev.oeS (Ev.ob ⟨0, fun m _ => b1 m⟩ (Ev.neg i10 (Ev.ob ⟨0, fun m _ => b2 m⟩ (Ev.pos rfl Ev.ret)))))))))
        · unfold Mo_bound_f
          exact Ev.ob ⟨0, fun m _ => s2 m⟩ (Ev.neg i10 (Ev.neg (by rw [i1]; decide) (Ev.pos i2 Ev.ret)))
    · rw [if_neg hu] at b1 i1
      refine ⟨0, 1, 0, ?_, ?_, by omega, fun t => absurd t (by decide)⟩
      · unfold Ti_bound_f
        exact Ev.ob (Ev.cn (a := some (D.1 1 0)) (by simp only [rd0 k0])) (Ev.obs (Ev.pos (rd1 k1).1 (Ev.ob ⟨0, fun m _ => s1 m⟩ (Ev.bn (Ev.oeS (Ev.ob ⟨0, fun m _ => b1 m⟩ (Ev.pos rfl Ev.ret)))))))
      · unfold Mo_bound_f
        exact Ev.ob ⟨0, fun m _ => s2 m⟩ (Ev.neg i10 (Ev.pos i1 Ev.ret))
  · obtain ⟨s1, -⟩ := PW.st_out (τ := τ) h p hy
    have s2 := fun n => isState_out (τ := τ) p.2.1 hy n
    refine ⟨0, 1, 0, ?_, ?_, by omega, fun t => absurd t (by decide)⟩
    · unfold Ti_bound_f
      exact Ev.ob (Ev.cn (a := some (D.1 1 0)) (by simp only [rd0 k0])) (Ev.obs (Ev.pos (rd1 k1).1 (Ev.ob ⟨0, fun m _ => s1 m⟩ (Ev.bn (Ev.oeN Ev.ret)))))
    · unfold Mo_bound_f
      exact Ev.ob ⟨0, fun m _ => s2 m⟩ (Ev.pos rfl Ev.ret)
theorem handBound_rt {m0 : Nat} (h : YW D κ σ) (H : HR m0 κ σ) (u v : Int32) : RTh Int32 D κ σ τ (fun n => Ti_handBound_f n (D.1 0 0) u v (rn D κ)) (fun n => Mo_handBound_f n u v σ τ) := by
  have k0 := h.1.2.1 0 (by decide) (by decide) (by decide)
  have z1 := h.1.z1
  have b1 := fun m => isCk m u (rn D κ)
  have b2 := fun m => isCk m v (rn D κ)
  have i1 := isN u 0 3 (u := 0) (v := 3) (by decide) (by decide)
  have i2 := isN v 0 3 (u := 0) (v := 3) (by decide) (by decide)
  by_cases hu : 0 ≤ u.toInt ∧ u.toInt ≤ 3
  · rw [if_pos hu] at b1 i1
    by_cases hv : 0 ≤ v.toInt ∧ v.toInt ≤ 3
    · rw [if_pos hv] at b2 i2
      have hi : u.toInt.toNat < 4 := by omega
      have hj : v.toInt.toNat < 4 := by omega
      have eu := J_ti hu.1
      have ev := J_ti hv.1
      generalize u.toInt.toNat = i at eu hi
      generalize v.toInt.toNat = j at ev hj
      subst eu ev
      have za := rn_zoA (κ := κ) z1.1 z1.2
      rw [show zn 1 = 4 from rfl] at za
      have at1 := fun n => at_A za (by omega) hi hj n
      have e6 : κ 6 1 2 = σ 44 0 := H.1.2.1
      have s44 : su σ 0 0 0 44 0 = σ 44 0 := su_n (by decide)
      rcases H.1.1 with t | t
      · have t : σ 44 0 = 0 := t
        have c : cagr 4 (κ 7 1) (hq σ).1 := (H.1.2.2 t).1
        have cz : κ 7 1 (i * 4 + j) = σ 43 (5 * i + j) := by
          rw [c i j hi hj]
          show (if 5 * i + j < 25 then σ 43 (5 * i + j) else σ 15 (5 * i + j)) = _
          rw [if_pos (by omega)]
        refine ⟨κ 7 1 (i * 4 + j), 0, σ 43 (5 * i + j), ?_, ?_, by omega, fun _ => cz⟩
        · unfold Ti_handBound_f
          refine Ev.ob ⟨0, fun m _ => b1 m⟩ (Ev.neg i10 (Ev.ob ⟨0, fun m _ => b2 m⟩ (Ev.neg i10 (Ev.ob (Ev.cn (a := some (D.1 6 1)) (by simp only [rd0 k0])) (Ev.obs (Ev.ob (Ev.cn (a := (0 : Int32)) (by simp only [rd6 z1.1]; rw [e6, t])) (Ev.pos rfl ?_)))))))
          exact Ev.ob (Ev.cn (a := some (D.1 6 1)) (by simp only [rd0 k0])) (Ev.obs (Ev.pos (rd6 z1.1).1 (Ev.ob ⟨0, fun m _ => at1 m⟩ Ev.ret)))
        · unfold Mo_handBound_f
          refine Ev.neg (by rw [i1]; decide) (Ev.neg (by rw [i2]; decide) (Ev.bn (Ev.pos (s44.trans t) ?_)))
          have ix : (5 : Int32) * J i + J j = J (5 * i + j) := by rw [J5, J_mul, J_add]
          have e : Int32.toNatClampNeg (J (5 * i + j)) = 5 * i + j := J_nat (by omega)
          rw [ix, e, su_n (by decide)]
          exact Ev.pos (xin_J (by omega) (by decide)) Ev.ret
      · have t : σ 44 0 = 1 := t
        refine ⟨-2000000, 0, -2000000, ?_, ?_, by omega, fun _ => rfl⟩
        · unfold Ti_handBound_f
          exact Ev.ob ⟨0, fun m _ => b1 m⟩ (Ev.neg i10 (Ev.ob ⟨0, fun m _ => b2 m⟩ (Ev.neg i10 (Ev.ob (Ev.cn (a := some (D.1 6 1)) (by simp only [rd0 k0])) (Ev.obs (Ev.ob (Ev.cn (a := (1 : Int32)) (by simp only [rd6 z1.1]; rw [e6, t])) (Ev.neg i10 Ev.ret)))))))
        · unfold Mo_handBound_f
          exact Ev.neg (by rw [i1]; decide) (Ev.neg (by rw [i2]; decide) (Ev.bn (Ev.neg (by show ¬ (su σ 0 0 0 44 0 = 0); rw [s44, t]; decide) Ev.ret)))
    · rw [if_neg hv] at b2 i2
      refine ⟨0, 1, 0, ?_, ?_, by omega, fun t => absurd t (by decide)⟩
      · unfold Ti_handBound_f
        exact Ev.ob ⟨0, fun m _ => b1 m⟩ (Ev.neg i10 (Ev.ob ⟨0, fun m _ => b2 m⟩ (Ev.pos rfl Ev.ret)))
      · unfold Mo_handBound_f
        exact Ev.neg (by rw [i1]; decide) (Ev.pos i2 Ev.ret)
  · rw [if_neg hu] at b1 i1
    refine ⟨0, 1, 0, ?_, ?_, by omega, fun t => absurd t (by decide)⟩
    · unfold Ti_handBound_f
      exact Ev.ob ⟨0, fun m _ => b1 m⟩ (Ev.pos rfl Ev.ret)
    · unfold Mo_handBound_f
      exact Ev.pos i1 Ev.ret
end SH2
