/-! calls that only read: count, soonest, stuck, state -/
/-- between calls: what a walk has left -/
def PW (κ : kS) (σ : mS) : Prop := κ 1 0 3 = σ 22 0 ∧ sml (σ 22 0) 200 ∧ sml (κ 3 0 0) 200 ∧ N (σ 22 0) ≤ N (κ 3 0 0) ∧ (∀ j, j < N (κ 3 0 0) → κ 19 j 0 = J j) ∧ (∀ j, j < N (σ 22 0) → SRl κ σ j ∧ TIj σ j ∧ ∃ p, p ≤ 5 ∧ σ 24 (3 * j) = J p) ∧ LE κ σ ∧ (κ 1 0 7 = σ 21 0 ∧ (σ 21 0 = 0 ∨ σ 21 0 = 1)) ∧ ∀ b, b < 3 → σ 42 b = if κ 1 0 8 = 0 then (-2 : Int32) else κ 4 0 (b + 1)
theorem isState_in {s : mS} {τ : mL} (hs : sml (s 22 0) 200) {k : Nat} (hk : k < N (s 22 0)) (n : Nat) : Mo_isState_f n (J k) s τ = some (1, s, τ) := by
  have hb := hs.2
  unfold Mo_isState_f
  rw [if_neg (J_nneg (by omega)), if_neg (sml_nle hs (by omega) hk)]
theorem isState_out {s : mS} {τ : mL} (hs : sml (s 22 0) 200) {y : Int32} (hy : ∀ m, m < N (s 22 0) → y ≠ J m) (n : Nat) : Mo_isState_f n y s τ = some (0, s, τ) := by
  unfold Mo_isState_f
  rcases i_out hs (by omega) hy with a | a
  · rw [if_pos a]
  · rw [if_pos a]
    split <;> rfl
section RD1
variable {D : kD} {κ : kS} {σ : mS} {τ : mL}
/-- the two sides of a call that only reads -/
def RO (D : kD) (κ : kS) (σ : mS) (τ : mL) (f : Nat → Option (Int32 × xH)) (g : Nat → Option (Int32 × mS × mL)) : Prop := ∃ r, Ev f (r, rn D κ) ∧ Ev g (r, su σ 0 0 0, τ)
theorem st_or (σ : mS) (x : Int32) : (∃ k, k < N (σ 22 0) ∧ x = J k) ∨ ∀ m, m < N (σ 22 0) → x ≠ J m := by
  by_cases h : ∃ k, k < N (σ 22 0) ∧ x = J k
  · exact Or.inl h
  · exact Or.inr (fun m hm e => h ⟨m, hm, e⟩)
theorem PW.st_in (h : YW D κ σ) (p : PW κ σ) {k : Nat} (hk : k < N (σ 22 0)) : (∀ n, Ya_stateAt_f n (D.1 1 0) (J k) (rn D κ) = some (some (D.1 19 k), rn D κ)) ∧ (kI D 19 k ∧ kI D 20 k ∧ kI D 21 k) ∧ ∀ n, Mo_isState_f n (J k) (su σ 0 0 0) τ = some (1, su σ 0 0 0, τ) := by
  refine ⟨fun n => stateAt_in h.1 (by rw [p.1]; exact p.2.1) (by rw [p.1]; exact p.2.2.2.1) (by rw [p.1]; exact hk) n, h.1.2.2.2.2.1 k (by have := p.2.2.2.1; omega), fun n => isState_in ?_ ?_ n⟩
  · rw [su_n (by decide)]; exact p.2.1
  · rw [su_n (by decide)]; exact hk
theorem PW.st_out (h : YW D κ σ) (p : PW κ σ) {x : Int32} (hx : ∀ m, m < N (σ 22 0) → x ≠ J m) : (∀ n, Ya_stateAt_f n (D.1 1 0) x (rn D κ) = some (none, rn D κ)) ∧ ∀ n, Mo_isState_f n x (su σ 0 0 0) τ = some (0, su σ 0 0 0, τ) := by
  refine ⟨fun n => stateAt_out h.1 (by rw [p.1]; exact p.2.1) (by rw [p.1]; exact hx) n, fun n => isState_out ?_ ?_ n⟩
  · rw [su_n (by decide)]; exact p.2.1
  · rw [su_n (by decide)]; exact hx
theorem soonest_ro (h : YW D κ σ) (p : PW κ σ) (x : Int32) : RO D κ σ τ (fun n => Ti_soonest_f n (D.1 0 0) x (rn D κ)) (fun n => Mo_soonest_f n x σ τ) := by
  have k0 := h.1.2.1 0 (by decide) (by decide) (by decide)
  have k1 := h.1.k1
  rcases st_or σ x with ⟨k, hk, rfl⟩ | hx
  · obtain ⟨s1, k19, s2⟩ := PW.st_in (τ := τ) h p hk
    have hb := p.2.1.2
    have sr := (p.2.2.2.2.2.1 k hk).1
    refine ⟨σ 32 k, ?_, ?_⟩
    · unfold Ti_soonest_f
      simp only [obd, bnd, oel, rd0 k0, rd1 k1, if_true, s1, rd19 k19.1, sr.2.2.2.2.2.1]
      exact Ev.ret
    · unfold Mo_soonest_f
      simp only [obd, bnd, s2]
      refine Ev.neg (by decide) (Ev.pos (xin_J (by omega) (by decide)) ?_)
      rw [J_nat (by omega), su_n (by decide)]
      exact Ev.ret
  · obtain ⟨s1, s2⟩ := PW.st_out (τ := τ) h p hx
    refine ⟨-1, ?_, ?_⟩
    · unfold Ti_soonest_f
      simp only [obd, bnd, oel, rd0 k0, rd1 k1, if_true, s1]
      exact Ev.ret
    · unfold Mo_soonest_f
      simp only [obd, bnd, s2, if_true]
      exact Ev.ret
theorem stuck_ro (h : YW D κ σ) (p : PW κ σ) (x : Int32) : RO D κ σ τ (fun n => Ti_stuck_f n (D.1 0 0) x (rn D κ)) (fun n => Mo_stuck_f n x σ τ) := by
  have k0 := h.1.2.1 0 (by decide) (by decide) (by decide)
  have k1 := h.1.k1
  rcases st_or σ x with ⟨k, hk, rfl⟩ | hx
  · obtain ⟨s1, k19, s2⟩ := PW.st_in (τ := τ) h p hk
    have hb := p.2.1.2
    have sr := (p.2.2.2.2.2.1 k hk).1
    obtain ⟨l, l1, l2, l3, l4, l5, l6, l7⟩ := p.2.2.2.2.2.2.1
    have s29 : su σ 0 0 0 29 (Int32.toNatClampNeg (J k)) = σ 29 k := by rw [J_nat (by omega), su_n (by decide)]
    have s33 : su σ 0 0 0 33 (Int32.toNatClampNeg (J k)) = σ 33 k := by rw [J_nat (by omega), su_n (by decide)]
    have xi : xin (J k) 200 = true := xin_J (by omega) (by decide)
    by_cases g : k < l
    · have lt : J k < κ 1 0 4 := by rw [l4, l7, J_lt (by omega) (by omega)]; exact g
      have n0 : 0 ≤ σ 29 k := by rw [i32_le]; exact (l2 k g).2
      by_cases g2 : σ 29 k ≤ 0
      · by_cases g3 : σ 33 k = 0
        · refine ⟨2, ?_, ?_⟩
          · unfold Ti_stuck_f
            simp only [obd, bnd, oel, rd0 k0, rd1 k1, if_true, s1, rd19 k19.1, lt, (l2 k g).1, g2, sr.2.2.2.2.2.2.1, g3]
            exact Ev.ret
          · unfold Mo_stuck_f
            simp only [obd, bnd, s2, s29, s33, xi, if_true, n0, g2, g3]
            exact Ev.neg (by decide) Ev.ret
        · refine ⟨1, ?_, ?_⟩
          · unfold Ti_stuck_f
            simp only [obd, bnd, oel, rd0 k0, rd1 k1, if_true, s1, rd19 k19.1, lt, (l2 k g).1, g2, sr.2.2.2.2.2.2.1, g3, if_false]
            exact Ev.ret
          · unfold Mo_stuck_f
            simp only [obd, bnd, s2, s29, s33, xi, if_true, n0, g2, g3, if_false]
            exact Ev.neg (by decide) Ev.ret
      · refine ⟨0, ?_, ?_⟩
        · unfold Ti_stuck_f
          simp only [obd, bnd, oel, rd0 k0, rd1 k1, if_true, s1, rd19 k19.1, lt, (l2 k g).1, g2, if_false]
          exact Ev.ret
        · unfold Mo_stuck_f
          simp only [obd, bnd, s2, s29, s33, xi, if_true, n0, g2, if_false]
          exact Ev.neg (by decide) Ev.ret
    · have lt : ¬ (J k < κ 1 0 4) := by rw [l4, l7, J_lt (by omega) (by omega)]; exact g
      have n0 : ¬ (0 ≤ σ 29 k) := by rw [l3 k (by omega) hk]; decide
      refine ⟨-1, ?_, ?_⟩
      · unfold Ti_stuck_f
        simp only [obd, bnd, oel, rd0 k0, rd1 k1, if_true, s1, lt, if_false]
        exact Ev.ret
      · unfold Mo_stuck_f
        simp only [obd, bnd, s2, s29, s33, xi, if_true, n0, if_false]
        exact Ev.neg (by decide) Ev.ret
  · obtain ⟨s1, s2⟩ := PW.st_out (τ := τ) h p hx
    refine ⟨-1, ?_, ?_⟩
    · unfold Ti_stuck_f
      simp only [obd, bnd, oel, rd0 k0, rd1 k1, if_true, s1]
      exact Ev.ret
    · unfold Mo_stuck_f
      simp only [obd, bnd, s2, if_true]
      exact Ev.ret
theorem count_ro (h : YW D κ σ) (p : PW κ σ) (x : Int32) : RO D κ σ τ (fun n => Ti_count_f n (D.1 0 0) x (rn D κ)) (fun n => Mo_count_f n x σ τ) := by
  have k0 := h.1.2.1 0 (by decide) (by decide) (by decide)
  have k1 := h.1.k1
  have k4 := h.1.2.1 4 (by decide) (by decide) (by decide)
  obtain ⟨l, l1, l2, l3, l4, l5, l6, l7⟩ := p.2.2.2.2.2.2.1
  have p42 := p.2.2.2.2.2.2.2.2
  have sn : ∀ s b, s ≠ 0 → su σ 0 0 0 s b = σ s b := fun s b hs => su_n hs
  have gr : ∀ b, b < 3 → ∀ y : Int32, y = J (b + 5) → Ev (fun n => if κ 1 0 8 = 0 then some ((-2 : Int32), rn D κ) else obd (ai (rn D κ) (D.1 4 0) 0 (y - 4)) (fun u86 => some (u86, rn D κ))) (σ 42 b, rn D κ) := fun b hb y hy => by
    rw [p42 b hb]
    by_cases g : κ 1 0 8 = 0
    · have e : (if κ 1 0 8 = 0 then (-2 : Int32) else κ 4 0 (b + 1)) = -2 := if_pos g
      rw [e]; exact Ev.pos g Ev.ret
    · have e : (if κ 1 0 8 = 0 then (-2 : Int32) else κ 4 0 (b + 1)) = κ 4 0 (b + 1) := if_neg g
      rw [e]
      refine Ev.neg g ?_
      have e : y - 4 = J (b + 1) := by
        rw [hy]
        have : b = 0 ∨ b = 1 ∨ b = 2 := by omega
        rcases this with t | t | t <;> (rw [t]; decide)
      rw [e, kra4 k4 (show b + 1 < 4 by omega)]
      exact Ev.ret
  unfold RO Ti_count_f Mo_count_f
  simp only [bnd]
  by_cases g0 : x = 0
  · exact ⟨σ 1 0, Ev.pos g0 (Ev.ob (Ev.cn (a := some (D.1 1 0)) (by simp only [rd0 k0])) (Ev.obs (Ev.ob (Ev.cn (a := σ 1 0) (by simp only [rd1 k1]; rw [h.2.1.1])) Ev.ret))), Ev.pos g0 (by rw [sn 1 0 (by decide)]; exact Ev.ret)⟩
  by_cases g1 : x = 1
  · exact ⟨σ 22 0, Ev.neg g0 (Ev.pos g1 (Ev.ob (Ev.cn (a := some (D.1 1 0)) (by simp only [rd0 k0])) (Ev.obs (Ev.ob (Ev.cn (a := σ 22 0) (by simp only [rd1 k1]; rw [p.1])) Ev.ret)))), Ev.neg g0 (Ev.pos g1 (by rw [sn 22 0 (by decide)]; exact Ev.ret))⟩
  by_cases g2 : x = 2
  · exact ⟨σ 23 0, Ev.neg g0 (Ev.neg g1 (Ev.pos g2 (Ev.ob (Ev.cn (a := some (D.1 1 0)) (by simp only [rd0 k0])) (Ev.obs (Ev.ob (Ev.cn (a := σ 23 0) (by simp only [rd1 k1]; rw [l4])) Ev.ret))))), Ev.neg g0 (Ev.neg g1 (Ev.pos g2 (by rw [sn 23 0 (by decide)]; exact Ev.ret)))⟩
  by_cases g3 : x = 3
  · exact ⟨σ 34 0, Ev.neg g0 (Ev.neg g1 (Ev.neg g2 (Ev.pos g3 (Ev.ob (Ev.cn (a := some (D.1 1 0)) (by simp only [rd0 k0])) (Ev.obs (Ev.ob (Ev.cn (a := σ 34 0) (by simp only [rd1 k1]; rw [l5])) Ev.ret)))))), Ev.neg g0 (Ev.neg g1 (Ev.neg g2 (Ev.pos g3 (by rw [sn 34 0 (by decide)]; exact Ev.ret))))⟩
  by_cases g4 : x = 4
  · exact ⟨σ 35 0, Ev.neg g0 (Ev.neg g1 (Ev.neg g2 (Ev.neg g3 (Ev.pos g4 (Ev.ob (Ev.cn (a := some (D.1 1 0)) (by simp only [rd0 k0])) (Ev.obs (Ev.ob (Ev.cn (a := σ 35 0) (by simp only [rd1 k1]; rw [l6])) Ev.ret))))))), Ev.neg g0 (Ev.neg g1 (Ev.neg g2 (Ev.neg g3 (Ev.pos g4 (by rw [sn 35 0 (by decide)]; exact Ev.ret)))))⟩
  have rest : ∀ b, b < 3 → x = J (b + 5) → Ev (fun n => obd (gq (rn D κ) (D.1 0 0) 4 0) (fun w62 => obd w62 (fun a67 => obd (gi (rn D κ) (a67) 3 8) (fun u68 => (if u68 = 0 then some (((-2) : Int32), (rn D κ)) else obd (gq (rn D κ) (D.1 0 0) 4 0) (fun w74 => obd w74 (fun a79 => obd (gq (rn D κ) (a79) 3 9) (fun w80 => obd w80 (fun a85 => obd (ai (rn D κ) (a85) 0 ((x) - ((4 : Int32)))) (fun u86 => some (u86, (rn D κ)))))))))))) (σ 42 b, rn D κ) ∧ Ev (fun n : Nat => if xin ((x) - ((5 : Int32))) 3 = true then some (su σ 0 0 0 42 (Int32.toNatClampNeg ((x) - ((5 : Int32)))), su σ 0 0 0, τ) else none) (σ 42 b, su σ 0 0 0, τ) := fun b hb hx => by
    refine ⟨?_, ?_⟩
    · simp only [obd, rd0 k0, rd1 k1]
      exact gr b hb x hx
    · have e : x - 5 = J b := by
        rw [hx]
        have : b = 0 ∨ b = 1 ∨ b = 2 := by omega
        rcases this with t | t | t <;> (rw [t]; decide)
      rw [e, J_nat (by omega), sn 42 b (by decide)]
      exact Ev.pos (xin_J hb (by decide)) Ev.ret
  by_cases g5 : x = 5
  · obtain ⟨r1, r2⟩ := rest 0 (by decide) g5
    exact ⟨_, Ev.neg g0 (Ev.neg g1 (Ev.neg g2 (Ev.neg g3 (Ev.neg g4 (Ev.pos g5 r1))))), Ev.neg g0 (Ev.neg g1 (Ev.neg g2 (Ev.neg g3 (Ev.neg g4 (Ev.pos g5 r2)))))⟩
  by_cases g6 : x = 6
  · obtain ⟨r1, r2⟩ := rest 1 (by decide) g6
    exact ⟨_, Ev.neg g0 (Ev.neg g1 (Ev.neg g2 (Ev.neg g3 (Ev.neg g4 (Ev.neg g5 (Ev.pos g6 r1)))))), Ev.neg g0 (Ev.neg g1 (Ev.neg g2 (Ev.neg g3 (Ev.neg g4 (Ev.neg g5 (Ev.pos g6 r2))))))⟩
  by_cases g7 : x = 7
  · obtain ⟨r1, r2⟩ := rest 2 (by decide) g7
    exact ⟨_, Ev.neg g0 (Ev.neg g1 (Ev.neg g2 (Ev.neg g3 (Ev.neg g4 (Ev.neg g5 (Ev.neg g6 (Ev.pos g7 r1))))))), Ev.neg g0 (Ev.neg g1 (Ev.neg g2 (Ev.neg g3 (Ev.neg g4 (Ev.neg g5 (Ev.neg g6 (Ev.pos g7 r2)))))))⟩
  · exact ⟨-1, Ev.neg g0 (Ev.neg g1 (Ev.neg g2 (Ev.neg g3 (Ev.neg g4 (Ev.neg g5 (Ev.neg g6 (Ev.neg g7 Ev.ret))))))), Ev.neg g0 (Ev.neg g1 (Ev.neg g2 (Ev.neg g3 (Ev.neg g4 (Ev.neg g5 (Ev.neg g6 (Ev.neg g7 Ev.ret)))))))⟩
end RD1
