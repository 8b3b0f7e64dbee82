/-! calls that only read: state, lead, seen -/
theorem J_ti {x : Int32} (h : 0 ≤ x.toInt) : x = J x.toInt.toNat := by
  apply Int32.toInt.inj
  have := Int32.toInt_lt x
  rw [J_int (by omega)]
  omega
section RD2
variable {D : kD} {κ : kS} {σ : mS} {τ : mL}
theorem state_ro (h : YW D κ σ) (p : PW κ σ) (x w : Int32) : RO D κ σ τ (fun n => Ti_state_f n (D.1 0 0) x w (rn D κ)) (fun n => Mo_state_f n x w σ τ) := by
  have k0 := h.1.2.1 0 (by decide) (by decide) (by decide)
  have k1 := h.1.k1
  rcases st_or σ x with ⟨k, hk, rfl⟩ | hx
  · obtain ⟨s1, k19, s2⟩ := PW.st_in (τ := τ) h p hk
    have hb := p.2.1.2
    have sr := (p.2.2.2.2.2.1 k hk).1
    obtain ⟨l, l1, l2, l3, l4, l5, l6, l7⟩ := p.2.2.2.2.2.2.1
    have nk : Int32.toNatClampNeg (J k) = k := J_nat (by omega)
    have xi : xin (J k) 200 = true := xin_J (by omega) (by decide)
    have sn : ∀ s b, s ≠ 0 → su σ 0 0 0 s b = σ s b := fun s b hs => su_n hs
    have pl : ∀ i, i < 3 → w = J i → RO D κ σ τ (fun n => Ti_state_f n (D.1 0 0) (J k) w (rn D κ)) (fun n => Mo_state_f n (J k) w σ τ) := fun i hi hw => by
      refine ⟨σ 24 (3 * k + i), ?_, ?_⟩
      · unfold Ti_state_f
        have ar : ai (rn D κ) (D.1 20 k) 0 w = some (σ 24 (3 * k + i)) := by rw [hw, kra20 k19.2.1 hi, sr.1 i hi]
        simp only [obd, bnd, oel, rd0 k0, rd1 k1, if_true, s1, rd19 k19.1, ar]
        have : i = 0 ∨ i = 1 ∨ i = 2 := by omega
        rcases this with t | t | t
        · exact Ev.pos (by rw [hw, t]; rfl) Ev.ret
        · exact Ev.neg (by rw [hw, t]; decide) (Ev.pos (by rw [hw, t]; rfl) Ev.ret)
        · exact Ev.neg (by rw [hw, t]; decide) (Ev.neg (by rw [hw, t]; decide) (Ev.pos (by rw [hw, t]; rfl) Ev.ret))
      · unfold Mo_state_f
        simp only [obd, bnd, s2]
        have ix : (3 : Int32) * J k + w = J (3 * k + i) := by rw [hw, J3, J_mul, J_add]
        have ii : Mo_isIn_f (Int32.toInt64 w) 0 6 = 1 := by
          rw [isIn_is, hw, J_int (by omega), if_pos]
          have a : (0 : Int64).toInt = 0 := by decide
          have b : (6 : Int64).toInt = 6 := by decide
          omega
        rw [ix, show Int32.toNatClampNeg (J (3 * k + i)) = 3 * k + i from J_nat (by omega), sn 24 _ (by decide), ii]
        have nn : ∀ j, 3 ≤ j → j < 100 → ¬ (w = J j) := fun j h3 h100 => by rw [hw, J_eq (by omega) (by omega)]; omega
        exact Ev.neg (by decide) (Ev.neg (by decide) (Ev.neg (nn 3 (by decide) (by decide)) (Ev.neg (nn 4 (by decide) (by decide)) (Ev.neg (nn 5 (by decide) (by decide)) (Ev.neg (nn 6 (by decide) (by decide)) (Ev.pos (xin_J (by omega) (by decide)) Ev.ret))))))
    have ii : ∀ j, j ≤ 6 → Mo_isIn_f (Int32.toInt64 (J j)) 0 6 = 1 := fun j hj => by
      rw [isIn_is, J_int (by omega), if_pos]
      have a : (0 : Int64).toInt = 0 := by decide
      have b : (6 : Int64).toInt = 6 := by decide
      omega
    by_cases g0 : w = J 0
    · exact pl 0 (by decide) g0
    by_cases g1 : w = J 1
    · exact pl 1 (by decide) g1
    by_cases g2 : w = J 2
    · exact pl 2 (by decide) g2
    unfold RO Ti_state_f Mo_state_f
    simp only [obd, bnd, oel, rd0 k0, rd1 k1, if_true, s1, rd19 k19.1, s2, nk, xi, sn 27 k (by decide), sn 28 k (by decide), sn 29 k (by decide), sn 30 k (by decide)]
    by_cases g3 : w = J 3
    · refine ⟨pT (σ 27 k), Ev.neg g0 (Ev.neg g1 (Ev.neg g2 (Ev.pos g3 (by rw [sr.2.1]; exact Ev.ret)))), Ev.neg (by decide) (Ev.neg (by rw [g3, ii 3 (by decide)]; decide) (Ev.pos g3 ?_))⟩
      unfold pT
      by_cases q : σ 27 k < 0
      · rw [if_pos q]
        exact Ev.neg (by rw [i32_lt] at q; rw [i32_le]; have : (0 : Int32).toInt = 0 := by decide
                         omega) Ev.ret
      · rw [if_neg q]
        exact Ev.pos (by rw [i32_lt] at q; rw [i32_le]; have : (0 : Int32).toInt = 0 := by decide
                         omega) Ev.ret
    by_cases g4 : w = J 4
    · exact ⟨σ 28 k, Ev.neg g0 (Ev.neg g1 (Ev.neg g2 (Ev.neg g3 (Ev.pos g4 (by rw [sr.2.2.1]; exact Ev.ret))))), Ev.neg (by decide) (Ev.neg (by rw [g4, ii 4 (by decide)]; decide) (Ev.neg g3 (Ev.pos g4 Ev.ret)))⟩
    by_cases g5 : w = J 5
    · refine ⟨σ 29 k, Ev.neg g0 (Ev.neg g1 (Ev.neg g2 (Ev.neg g3 (Ev.neg g4 (Ev.pos g5 ?_))))), Ev.neg (by decide) (Ev.neg (by rw [g5, ii 5 (by decide)]; decide) (Ev.neg g3 (Ev.neg g4 (Ev.pos g5 Ev.ret))))⟩
      by_cases q : k < l
      · rw [(l2 k q).1]
        exact Ev.neg (by rw [l4, l7, J_le (by omega) (by omega)]; omega) Ev.ret
      · rw [l3 k (by omega) hk]
        exact Ev.pos (by rw [l4, l7, J_le (by omega) (by omega)]; omega) Ev.ret
    by_cases g6 : w = J 6
    · exact ⟨σ 30 k, Ev.neg g0 (Ev.neg g1 (Ev.neg g2 (Ev.neg g3 (Ev.neg g4 (Ev.neg g5 (Ev.pos g6 (by rw [sr.2.2.2.1]; exact Ev.ret))))))), Ev.neg (by decide) (Ev.neg (by rw [g6, ii 6 (by decide)]; decide) (Ev.neg g3 (Ev.neg g4 (Ev.neg g5 (Ev.pos g6 Ev.ret)))))⟩
    · refine ⟨-1, Ev.neg g0 (Ev.neg g1 (Ev.neg g2 (Ev.neg g3 (Ev.neg g4 (Ev.neg g5 (Ev.neg g6 Ev.ret)))))), Ev.neg (by decide) (Ev.pos ?_ Ev.ret)⟩
      rw [isIn_is, if_neg]
      have a : (0 : Int64).toInt = 0 := by decide
      have b : (6 : Int64).toInt = 6 := by decide
      rw [a, b]
      intro t
      have e := J_ti t.1
      have hm : w.toInt.toNat ≤ 6 := by omega
      generalize w.toInt.toNat = m at e hm
      have : m = 0 ∨ m = 1 ∨ m = 2 ∨ m = 3 ∨ m = 4 ∨ m = 5 ∨ m = 6 := by omega
      rcases this with q | q | q | q | q | q | q <;> rw [q] at e <;> contradiction
  · obtain ⟨s1, s2⟩ := PW.st_out (τ := τ) h p hx
    refine ⟨-1, ?_, ?_⟩
    · unfold Ti_state_f
      simp only [obd, bnd, oel, rd0 k0, rd1 k1, if_true, s1]
      exact Ev.ret
    · unfold Mo_state_f
      simp only [obd, bnd, s2, if_true]
      exact Ev.ret
/-- how deep a state lies -/
theorem deep_is (p : PW κ σ) : ∀ j, j < N (σ 22 0) → ∃ d, d ≤ j ∧ σ 30 j = J d ∧ (d = 0 → j = 0) := by
  intro j
  induction j using Nat.strongRecOn with
  | ind j ih =>
    intro hj
    have t := (p.2.2.2.2.2.1 j hj).2.1
    by_cases g : j = 0
    · exact ⟨0, by omega, by rw [g]; exact (t.1 g).2, fun _ => g⟩
    · obtain ⟨i, i1, i2, i3⟩ := t.2 (by omega)
      obtain ⟨d, d1, d2, d3⟩ := ih i i1 (by omega)
      exact ⟨d + 1, by omega, by rw [i3, d2]; exact J_add d 1, fun q => by omega⟩
theorem lead_ro (h : YW D κ σ) (p : PW κ σ) (x y w : Int32) : RO D κ σ τ (fun n => Ti_lead_f n 0 (D.1 0 0) x y w none 0 (rn D κ)) (fun n => Mo_lead_f n 0 x y w 0 σ τ) := by
  have k0 := h.1.2.1 0 (by decide) (by decide) (by decide)
  have k1 := h.1.k1
  have preC : ∀ R, Ev (fun n => Ti_lead_t0 (fun p x1 x2 x3 y4 x5 h => Ti_lead_f n p (D.1 0 0) x1 x2 x3 y4 x5 h) n (D.1 0 0) x y w none 0 (rn D κ)) R → Ev (fun n => Ti_lead_f n 0 (D.1 0 0) x y w none 0 (rn D κ)) R := fun R e => Ev.succ (fun n => Ti_lead_e0 n _ _ _ _ _ _ _) e
  have preR : ∀ R, Ev (fun n => Mo_lead_t0 (Mo_lead_f n) n x y w 0 σ τ) R → Ev (fun n => Mo_lead_f n 0 x y w 0 σ τ) R := fun R e => Ev.succ (fun n => Mo_lead_e0 n _ _ _ _ _ _) e
  rcases st_or σ x with ⟨k, hk, rfl⟩ | hx
  · obtain ⟨s1, k19, s2⟩ := PW.st_in (τ := τ) h p hk
    have hb := p.2.1.2
    have sr := (p.2.2.2.2.2.1 k hk).1
    obtain ⟨d, d1, d2, d3⟩ := deep_is p k hk
    have nk : Int32.toNatClampNeg (J k) = k := J_nat (by omega)
    have xi : xin (J k) 200 = true := xin_J (by omega) (by decide)
    have sn : ∀ s b, s ≠ 0 → su σ 0 0 0 s b = σ s b := fun s b hs => su_n hs
    by_cases g0 : y < 0
    · refine ⟨-1, preC _ ?_, preR _ ?_⟩
      · unfold Ti_lead_t0
        simp only [obd, bnd, oel, rd0 k0, rd1 k1, if_true, s1]
        exact Ev.pos g0 Ev.ret
      · unfold Mo_lead_t0
        simp only [obd, bnd, s2]
        exact Ev.neg (by decide) (Ev.pos g0 Ev.ret)
    by_cases g1 : σ 30 k ≤ y
    · refine ⟨-1, preC _ ?_, preR _ ?_⟩
      · unfold Ti_lead_t0
        simp only [obd, bnd, oel, rd0 k0, rd1 k1, if_true, s1, rd19 k19.1, sr.2.2.2.1]
        exact Ev.neg g0 (Ev.pos g1 Ev.ret)
      · unfold Mo_lead_t0
        simp only [obd, bnd, s2, nk, xi, if_true, sn 30 k (by decide)]
        exact Ev.neg (by decide) (Ev.neg g0 (Ev.pos g1 Ev.ret))
    have iw : Mo_isIn_f (Int32.toInt64 w) 0 3 = if 0 ≤ w.toInt ∧ w.toInt ≤ 3 then 1 else 0 := isIn_is w 0 3
    by_cases g2 : 0 ≤ w.toInt ∧ w.toInt ≤ 3
    · rw [if_pos g2] at iw
      have ib : ∀ n, Ti_isBetween_f n w 0 3 (rn D κ) = some (1, rn D κ) := fun n => by
        unfold Ti_isBetween_f
        have z : (0 : Int32).toInt = 0 := by decide
        have t : (3 : Int32).toInt = 3 := by decide
        rw [if_neg (by rw [i32_lt]; omega), if_neg (by rw [i32_lt]; omega)]
      -- y is a small number i
      have hy0 : 0 ≤ y.toInt := by
        rw [i32_lt] at g0
        have z : (0 : Int32).toInt = 0 := by decide
        omega
      have ey := J_ti hy0
      have hyd : y.toInt.toNat < d := by
        rw [d2, i32_le, J_int (by omega)] at g1
        omega
      generalize y.toInt.toNat = i at ey hyd
      have ew := J_ti g2.1
      have hw4 : w.toInt.toNat < 4 := by omega
      generalize w.toInt.toNat = q at ew hw4
      -- both go back alike
      have back : ∀ e x, x < N (σ 22 0) → σ 30 x = J (i + 1 + e) → i + 1 + e ≤ 200 → ∃ r, Ev (fun n => Ti_lead_f n 48 (D.1 0 0) (J k) (J i) (J q) (some (D.1 19 x)) (J (i + e)) (rn D κ)) (r, rn D κ) ∧ Ev (fun n => Mo_lead_f n 44 (J k) (J i) (J q) (J x) (su σ 0 0 0) τ) (r, su σ 0 0 0, τ) := by
        intro e
        induction e with
        | zero =>
          intro x hx hd hle
          have k19x := (PW.st_in (τ := τ) h p hx).2.1
          have srx := (p.2.2.2.2.2.1 x hx).1
          obtain ⟨dx, dx1, dx2, dx3⟩ := deep_is p x hx
          have hx0 : 0 < x := by
            rw [hd, J_eq (by omega) (by omega)] at dx2
            omega
          refine ⟨σ 31 (4 * x + q), ?_, ?_⟩
          · refine Ev.succ (fun n => Ti_lead_e48 n _ _ _ _ _ _ _) ?_
            unfold Ti_lead_t48
            refine Ev.pos (by rw [J_le (by omega) (by omega)]; omega) (Ev.oeS ?_)
            refine Ev.ob (Ev.cn (a := some (D.1 21 x)) (by simp only [rd19 k19x.1])) (Ev.obs (Ev.ob (Ev.cn (kra21 k19x.2.2 hw4)) ?_))
            rw [srx.2.2.2.2.1 hx0 q hw4]
            exact Ev.ret
          · refine Ev.succ (fun n => Mo_lead_e44 n _ _ _ _ _ _) ?_
            unfold Mo_lead_t44
            refine Ev.pos (xin_J (by omega) (by decide)) (Ev.pos ?_ (Ev.pos ?_ ?_))
            · rw [J_nat (by omega), sn 30 x (by decide), hd, J1, J_add, J_le (by omega) (by omega)]; omega
            · rw [J4, J_mul, J_add]; exact xin_J (by omega) (by decide)
            · rw [J4, J_mul, J_add, J_nat (by omega), sn 31 _ (by decide)]
              exact Ev.ret
        | succ e ih =>
          intro x hx hd hle
          have k19x := (PW.st_in (τ := τ) h p hx).2.1
          have srx := (p.2.2.2.2.2.1 x hx).1
          obtain ⟨dx, dx1, dx2, dx3⟩ := deep_is p x hx
          have hx0 : 0 < x := by
            rw [hd, J_eq (by omega) (by omega)] at dx2
            omega
          obtain ⟨j, j1, j2, j3⟩ := (p.2.2.2.2.2.1 x hx).2.1.2 hx0
          obtain ⟨dj, dj1, dj2, dj3⟩ := deep_is p j (by omega)
          have ej : σ 30 j = J (i + 1 + e) := by
            rw [hd, dj2, J1, J_add, J_eq (by omega) (by omega)] at j3
            rw [dj2, show dj = i + 1 + e by omega]
          obtain ⟨r, r1, r2⟩ := ih j (by omega) ej (by omega)
          refine ⟨r, ?_, ?_⟩
          · refine Ev.succ (fun n => Ti_lead_e48 n _ _ _ _ _ _ _) ?_
            unfold Ti_lead_t48
            refine Ev.neg (by rw [J_le (by omega) (by omega)]; omega) (Ev.oeS ?_)
            have pj : κ 19 x 5 = J j := by
              rw [srx.2.1, j2]
              unfold pT
              rw [if_neg (J_nneg (by omega))]
            refine Ev.ob (Ev.cn (a := some (D.1 1 0)) (by simp only [rd0 k0])) (Ev.ob (Ev.cn (a := J j) (by simp only [rd19 k19x.1]; rw [pj])) (Ev.obs (Ev.pos (rd1 k1).1 ?_)))
            refine Ev.ob ⟨0, fun n _ => (PW.st_in (τ := τ) h p (show j < N (σ 22 0) by omega)).1 n⟩ (Ev.bn ?_)
            have ee : J (i + (e + 1)) + (-1) = J (i + e) := by
              have := J_sub1 (i + e)
              rw [show i + (e + 1) = i + e + 1 by omega, ← this, Int32.sub_eq_add_neg]
            rw [ee]
            exact r1
          · refine Ev.succ (fun n => Mo_lead_e44 n _ _ _ _ _ _) ?_
            unfold Mo_lead_t44
            refine Ev.pos (xin_J (by omega) (by decide)) (Ev.neg ?_ (Ev.pos (xin_J (by omega) (by decide)) ?_))
            · rw [J_nat (by omega), sn 30 x (by decide), hd, J1, J_add, J_le (by omega) (by omega)]; omega
            · rw [J_nat (by omega), sn 27 x (by decide), j2]
              exact r2
      obtain ⟨r, r1, r2⟩ := back (d - 1 - i) k hk (by rw [d2]; congr 1; omega) (by omega)
      refine ⟨r, preC _ ?_, preR _ ?_⟩
      · unfold Ti_lead_t0
        simp only [obd, bnd, oel, rd0 k0, rd1 k1, if_true, s1, rd19 k19.1, sr.2.2.2.1, ib]
        refine Ev.neg g0 (Ev.neg g1 (Ev.neg (by decide) ?_))
        have e1 : σ 30 k - 1 = J (i + (d - 1 - i)) := by
          rw [d2, show d = (i + (d - 1 - i)) + 1 by omega, J_sub1]
          congr 1
          omega
        rw [e1, ey, ew]
        exact r1
      · unfold Mo_lead_t0
        simp only [obd, bnd, s2, nk, xi, if_true, sn 30 k (by decide)]
        refine Ev.neg (by decide) (Ev.neg g0 (Ev.neg g1 (Ev.neg (by rw [iw]; decide) ?_)))
        rw [ey, ew]
        exact r2
    · rw [if_neg g2] at iw
      have ib : ∀ n, Ti_isBetween_f n w 0 3 (rn D κ) = some (0, rn D κ) := fun n => by
        unfold Ti_isBetween_f
        have z : (0 : Int32).toInt = 0 := by decide
        have t : (3 : Int32).toInt = 3 := by decide
        by_cases q : w < 0
        · rw [if_pos q]
        · rw [if_neg q, if_pos]
          rw [i32_lt] at q ⊢
          omega
      refine ⟨-1, preC _ ?_, preR _ ?_⟩
      · unfold Ti_lead_t0
        simp only [obd, bnd, oel, rd0 k0, rd1 k1, if_true, s1, rd19 k19.1, sr.2.2.2.1, ib]
        exact Ev.neg g0 (Ev.neg g1 Ev.ret)
      · unfold Mo_lead_t0
        simp only [obd, bnd, s2, nk, xi, if_true, sn 30 k (by decide)]
        exact Ev.neg (by decide) (Ev.neg g0 (Ev.neg g1 (Ev.pos iw Ev.ret)))
  · obtain ⟨s1, s2⟩ := PW.st_out (τ := τ) h p hx
    refine ⟨-1, preC _ ?_, preR _ ?_⟩
    · unfold Ti_lead_t0
      simp only [obd, bnd, oel, rd0 k0, rd1 k1, if_true, s1]
      exact Ev.ret
    · unfold Mo_lead_t0
      simp only [obd, bnd, s2, if_true]
      exact Ev.ret
/-- a state's PLACES as asked -/
def asks (σ : mS) (a b c : Int32) (k : Nat) : Prop := (a < 0 ∨ σ 24 (3 * k) = a) ∧ (b < 0 ∨ σ 24 (3 * k + 1) = b) ∧ (c < 0 ∨ σ 24 (3 * k + 2) = c)
theorem seen_52 {s : mS} (h : sml (s 22 0) 200) {k : Nat} (hk : k < N (s 22 0)) (a b c : Int32) : (asks s a b c k → Ev (fun n => Mo_seen_f n 52 a b c (J k) 0 s τ) (J k, s, τ)) ∧ (¬ asks s a b c k → ∀ R, Ev (fun n => Mo_seen_f n 52 a b c (J (k + 1)) 0 s τ) R → Ev (fun n => Mo_seen_f n 52 a b c (J k) 0 s τ) R) := by
  have hb := h.2
  have n1 : ¬ (s 22 0 ≤ J k) := sml_nle h (by omega) hk
  have x0 : xin (3 * J k) 600 = true := by rw [J3, J_mul]; exact xin_J (by omega) (by decide)
  have x1 : xin (3 * J k + 1) 600 = true := by rw [J3, J1, J_mul, J_add]; exact xin_J (by omega) (by decide)
  have x2 : xin (3 * J k + 2) 600 = true := by rw [J3, J2, J_mul, J_add]; exact xin_J (by omega) (by decide)
  have m0 : Int32.toNatClampNeg (3 * J k) = 3 * k := by rw [J3, J_mul]; exact J_nat (by omega)
  have m1 : Int32.toNatClampNeg (3 * J k + 1) = 3 * k + 1 := by rw [J3, J1, J_mul, J_add]; exact J_nat (by omega)
  have m2 : Int32.toNatClampNeg (3 * J k + 2) = 3 * k + 2 := by rw [J3, J2, J_mul, J_add]; exact J_nat (by omega)
  have e1 : J k + 1 = J (k + 1) := J_add k 1
  have pre : ∀ R, Ev (fun n => Mo_seen_t52 (Mo_seen_f n) n a b c (J k) 0 s τ) R → Ev (fun n => Mo_seen_f n 52 a b c (J k) 0 s τ) R := fun R e => Ev.succ (fun n => Mo_seen_e52 n _ _ _ _ _ _ _) e
  unfold asks
  refine ⟨fun t => pre _ ?_, fun t R e => pre _ ?_⟩
  · unfold Mo_seen_t52
    simp only [n1, if_false, x0, x1, x2, m0, m1, m2, if_true]
    by_cases ga : a < 0 <;> by_cases gb : b < 0 <;> by_cases gc : c < 0 <;> simp only [ga, gb, gc, if_true, if_false, true_or, false_or, true_and, and_true] at t ⊢
    all_goals first | exact Ev.ret | (simp only [t, if_true]; exact Ev.ret) | (simp only [t.1, t.2, if_true]; exact Ev.ret) | (simp only [t.1, t.2.1, t.2.2, if_true]; exact Ev.ret)
  · unfold Mo_seen_t52
    simp only [n1, if_false, x0, x1, x2, m0, m1, m2, if_true, e1]
    by_cases ga : a < 0 <;> by_cases gb : b < 0 <;> by_cases gc : c < 0 <;> by_cases qa : s 24 (3 * k) = a <;> by_cases qb : s 24 (3 * k + 1) = b <;> by_cases qc : s 24 (3 * k + 2) = c <;> simp only [ga, gb, gc, qa, qb, qc, if_true, if_false, true_or, or_true, or_self, and_self, not_true_eq_false] at t ⊢
    all_goals exact e
theorem fits_c (h : YW D κ σ) (p : PW κ σ) {k : Nat} (hk : k < N (σ 22 0)) {m : Nat} (hm : m < 3) {a : Int32} (ha : -1 ≤ a.toInt) (n : Nat) : St_fits_f n (D.1 19 k) (J m) a (rn D κ) = some ((if a < 0 ∨ σ 24 (3 * k + m) = a then 1 else 0), rn D κ) := by
  have k19 := (PW.st_in (τ := fun _ _ => 0) h p hk).2.1
  have sr := (p.2.2.2.2.2.1 k hk).1
  have neg1 : (a = -1) ↔ a < 0 := by
    rw [i32_lt, i32_eq]
    have z : (0 : Int32).toInt = 0 := by decide
    have t : (-1 : Int32).toInt = -1 := by decide
    omega
  unfold St_fits_f
  by_cases g : a < 0
  · rw [if_pos (neg1.mpr g), if_pos (Or.inl g)]
  · rw [if_neg (fun t => g (neg1.mp t)), if_neg (J_nneg (by omega))]
    simp only [obd, rd19 k19.1, krl20 k19.2.1, kra20 k19.2.1 hm, sr.1 m hm]
    rw [if_neg (by rw [J_le (by omega) (by omega)]; omega)]
    by_cases q : σ 24 (3 * k + m) = a
    · rw [if_pos q, if_pos (Or.inr q)]
    · rw [if_neg q, if_neg (fun t => t.elim g q)]
theorem seen_ro (h : YW D κ σ) (p : PW κ σ) (a b c : Int32) : RO D κ σ τ (fun n => Ti_seen_f n 0 (D.1 0 0) a b c 0 0 (rn D κ)) (fun n => Mo_seen_f n 0 a b c 0 0 σ τ) := by
  have k0 := h.1.2.1 0 (by decide) (by decide) (by decide)
  have k1 := h.1.k1
  have hb := p.2.1.2
  have preC : ∀ R, Ev (fun n => Ti_seen_t0 (fun p x1 x2 x3 x4 x5 h => Ti_seen_f n p (D.1 0 0) x1 x2 x3 x4 x5 h) n (D.1 0 0) a b c 0 0 (rn D κ)) R → Ev (fun n => Ti_seen_f n 0 (D.1 0 0) a b c 0 0 (rn D κ)) R := fun R e => Ev.succ (fun n => Ti_seen_e0 n _ _ _ _ _ _ _) e
  have preR : ∀ R, Ev (fun n => Mo_seen_t0 (Mo_seen_f n) n a b c 0 0 σ τ) R → Ev (fun n => Mo_seen_f n 0 a b c 0 0 σ τ) R := fun R e => Ev.succ (fun n => Mo_seen_e0 n _ _ _ _ _ _ _) e
  have both : ∀ x : Int32, (Mo_isIn_f (Int32.toInt64 x) (-1) 5 = 1 ∧ (∀ n, Ti_isBetween_f n x (-1) 5 (rn D κ) = some (1, rn D κ)) ∧ -1 ≤ x.toInt) ∨ (Mo_isIn_f (Int32.toInt64 x) (-1) 5 = 0 ∧ ∀ n, Ti_isBetween_f n x (-1) 5 (rn D κ) = some (0, rn D κ)) := fun x => by
    have z : (-1 : Int32).toInt = -1 := by decide
    have t : (5 : Int32).toInt = 5 := by decide
    have z' : (-1 : Int64).toInt = -1 := by decide
    have t' : (5 : Int64).toInt = 5 := by decide
    rw [isIn_is, z', t']
    by_cases g : -1 ≤ x.toInt ∧ x.toInt ≤ 5
    · refine Or.inl ⟨if_pos g, fun n => ?_, g.1⟩
      unfold Ti_isBetween_f
      rw [if_neg (by rw [i32_lt]; omega), if_neg (by rw [i32_lt]; omega)]
    · refine Or.inr ⟨if_neg g, fun n => ?_⟩
      unfold Ti_isBetween_f
      by_cases q : x < -1
      · rw [if_pos q]
      · rw [if_neg q, if_pos]
        rw [i32_lt] at q ⊢
        omega
  rcases both a with ⟨a1, a2, a3⟩ | ⟨a1, a2⟩
  · rcases both b with ⟨b1, b2, b3⟩ | ⟨b1, b2⟩
    · rcases both c with ⟨c1, c2, c3⟩ | ⟨c1, c2⟩
      · have hs : sml (su σ 0 0 0 22 0) 200 := by rw [su_n (by decide)]; exact p.2.1
        have loop : ∀ d k, k + d = N (σ 22 0) → ∃ r, Ev (fun n => Ti_seen_f n 38 (D.1 0 0) a b c 5 (J k) (rn D κ)) (r, rn D κ) ∧ Ev (fun n => Mo_seen_f n 52 a b c (J k) 0 (su σ 0 0 0) τ) (r, su σ 0 0 0, τ) := by
          intro d
          induction d with
          | zero =>
            intro k hk
            refine ⟨-2, ?_, ?_⟩
            · refine Ev.succ (fun n => Ti_seen_e38 n _ _ _ _ _ _ _) ?_
              unfold Ti_seen_t38
              refine Ev.ob (Ev.cn (a := some (D.1 1 0)) (by simp only [rd0 k0])) (Ev.obs (Ev.ob (Ev.cn (a := σ 22 0) (by simp only [rd1 k1]; rw [p.1])) (Ev.pos ?_ Ev.ret)))
              rw [p.2.1.1, J_le (by omega) (by omega)]; omega
            · refine Ev.succ (fun n => Mo_seen_e52 n _ _ _ _ _ _ _) ?_
              unfold Mo_seen_t52
              refine Ev.pos ?_ Ev.ret
              rw [su_n (by decide), p.2.1.1, J_le (by omega) (by omega)]; omega
          | succ d ih =>
            intro k hk
            have hk' : k < N (σ 22 0) := by omega
            obtain ⟨s1, k19, -⟩ := PW.st_in (τ := τ) h p hk'
            have fa := fits_c h p hk' (m := 0) (by decide) a3
            have fb := fits_c h p hk' (m := 1) (by decide) b3
            have fc := fits_c h p hk' (m := 2) (by decide) c3
            rw [Nat.add_zero] at fa
            have sr := seen_52 (τ := τ) hs (k := k) (by rw [su_n (by decide)]; exact hk') a b c
            have e24 : asks (su σ 0 0 0) a b c k ↔ asks σ a b c k := by
              unfold asks
              rw [su_n (by decide), su_n (by decide), su_n (by decide)]
            rw [e24] at sr
            have step : ∀ R, Ev (fun n => if (if a < 0 ∨ σ 24 (3 * k) = a then (1 : Int32) else 0) = 0 then Ti_seen_f n 38 (D.1 0 0) a b c 5 (J (k + 1)) (rn D κ) else if (if b < 0 ∨ σ 24 (3 * k + 1) = b then (1 : Int32) else 0) = 0 then Ti_seen_f n 38 (D.1 0 0) a b c 5 (J (k + 1)) (rn D κ) else if (if c < 0 ∨ σ 24 (3 * k + 2) = c then (1 : Int32) else 0) = 0 then Ti_seen_f n 38 (D.1 0 0) a b c 5 (J (k + 1)) (rn D κ) else some (J k, rn D κ)) R → Ev (fun n => Ti_seen_f n 38 (D.1 0 0) a b c 5 (J k) (rn D κ)) R := fun R e => by
              refine Ev.succ (fun n => Ti_seen_e38 n _ _ _ _ _ _ _) ?_
              unfold Ti_seen_t38
              refine Ev.ob (Ev.cn (a := some (D.1 1 0)) (by simp only [rd0 k0])) (Ev.obs (Ev.ob (Ev.cn (a := σ 22 0) (by simp only [rd1 k1]; rw [p.1])) (Ev.neg (sml_nle p.2.1 (by omega) hk') ?_)))
              refine Ev.ob (Ev.cn (a := some (D.1 1 0)) (by simp only [rd0 k0])) (Ev.obs (Ev.pos (rd1 k1).1 (Ev.ob ⟨0, fun n _ => s1 n⟩ (Ev.bn (Ev.oeS (Ev.pos (rd19 k19.1).1 ?_))))))
              refine Ev.cg (fun n => ?_) e
              rw [show (0 : Int32) = J 0 from rfl, show (1 : Int32) = J 1 from rfl, show (2 : Int32) = J 2 from rfl, fa n]
              simp only [obd]
              rw [fb n]
              simp only [rd19 k19.1, if_true]
              rw [fc n, show J k + J 1 = J (k + 1) from J_add k 1]
              rfl
            by_cases q : asks σ a b c k
            · refine ⟨J k, step _ ?_, sr.1 q⟩
              rw [if_pos q.1, if_pos q.2.1, if_pos q.2.2]
              exact Ev.neg (by decide) (Ev.neg (by decide) (Ev.neg (by decide) Ev.ret))
            · obtain ⟨r, r1, r2⟩ := ih (k + 1) (by omega)
              refine ⟨r, step _ ?_, sr.2 q _ r2⟩
              by_cases qa : a < 0 ∨ σ 24 (3 * k) = a
              · rw [if_pos qa]
                refine Ev.neg (by decide) ?_
                by_cases qb : b < 0 ∨ σ 24 (3 * k + 1) = b
                · rw [if_pos qb]
                  refine Ev.neg (by decide) ?_
                  have qc : ¬ (c < 0 ∨ σ 24 (3 * k + 2) = c) := fun t => q ⟨qa, qb, t⟩
                  rw [if_neg qc]
                  exact Ev.pos rfl r1
                · rw [if_neg qb]
                  exact Ev.pos rfl r1
              · rw [if_neg qa]
                exact Ev.pos rfl r1
        obtain ⟨r, r1, r2⟩ := loop (N (σ 22 0)) 0 (by omega)
        refine ⟨r, preC _ ?_, preR _ ?_⟩
        · unfold Ti_seen_t0
          simp only [obd, a2, b2, c2]
          exact Ev.neg (by decide) (Ev.neg (by decide) (Ev.neg (by decide) r1))
        · unfold Mo_seen_t0
          simp only [bnd, a1, b1, c1]
          exact Ev.neg (by decide) (Ev.neg (by decide) (Ev.neg (by decide) r2))
      · refine ⟨-1, preC _ ?_, preR _ ?_⟩
        · unfold Ti_seen_t0
          simp only [obd, a2, b2, c2]
          exact Ev.neg (by decide) (Ev.neg (by decide) (Ev.pos trivial Ev.ret))
        · unfold Mo_seen_t0
          simp only [bnd, a1, b1, c1]
          exact Ev.neg (by decide) (Ev.neg (by decide) (Ev.pos trivial Ev.ret))
    · refine ⟨-1, preC _ ?_, preR _ ?_⟩
      · unfold Ti_seen_t0
        simp only [obd, a2, b2]
        exact Ev.neg (by decide) (Ev.pos trivial Ev.ret)
      · unfold Mo_seen_t0
        simp only [bnd, a1, b1]
        exact Ev.neg (by decide) (Ev.pos trivial Ev.ret)
  · refine ⟨-1, preC _ ?_, preR _ ?_⟩
    · unfold Ti_seen_t0
      simp only [obd, a2]
      exact Ev.pos trivial Ev.ret
    · unfold Mo_seen_t0
      simp only [bnd, a1]
      exact Ev.pos trivial Ev.ret
end RD2
