/-! limit, test: class and reference -/
section BL
variable {D : kD} {κ : kS} {σ : mS} {τ : mL} {z : Nat}
theorem clk_or (x : Int32) : (∃ k, 1 ≤ k ∧ k < 4 ∧ x = J k ∧ Mo_isIn_f (Int32.toInt64 x) 1 3 = 1) ∨ (Mo_isIn_f (Int32.toInt64 x) 1 3 = 0 ∧ (x = 0 ∨ (x ≠ 0 ∧ ∀ n (h : xH), Ti_isClock_f n x h = some (0, h)))) := by
  have a : (1 : Int64).toInt = 1 := by decide
  have b : (3 : Int64).toInt = 3 := by decide
  have z0 : (0 : Int32).toInt = 0 := by decide
  have z4 : (4 : Int32).toInt = 4 := by decide
  rw [isIn_is, a, b]
  by_cases g : 1 ≤ x.toInt ∧ x.toInt ≤ 3
  · exact Or.inl ⟨x.toInt.toNat, by omega, by omega, J_ti (by omega), if_pos g⟩
  · refine Or.inr ⟨if_neg g, ?_⟩
    by_cases q : x = 0
    · exact Or.inl q
    · refine Or.inr ⟨q, fun n h => ?_⟩
      have qi : x.toInt ≠ 0 := fun t => q (Int32.toInt.inj (t.trans z0.symm))
      unfold Ti_isClock_f
      by_cases q2 : x < 0
      · rw [if_pos q2]
      · rw [if_neg q2, if_pos]
        rw [i32_lt] at q2
        rw [i32_le]
        omega
theorem isClock_in {k : Nat} (hk : k < 4) (n : Nat) (h : xH) : Ti_isClock_f n (J k) h = some (1, h) := by
  unfold Ti_isClock_f
  rw [if_neg (J_nneg (by omega)), if_neg (by rw [J4, J_le (by omega) (by omega)]; omega)]
/-- a refused call -/
theorem BN_no (h : YW D κ σ) (hF : FZ D κ z) (hV : WV σ) (hT : WT σ) {r : Int32} {f : Nat → Option (Int32 × xH)} {g : Nat → Option (Int32 × mS × mL)} (ef : Ev f (r, rn D κ)) (eg : Ev g (r, su σ 0 0 0, τ)) : BN D κ σ τ z f g := ⟨r, κ, su σ 0 0 0, ef, eg, YW_sst h (yq_0 σ), hF, hV.eq (yq_0 σ), WT_cg (yq_0 σ) hT, kfy.rf κ, sfy_0 σ, MZ_0 σ⟩
theorem limit_y (h : YW D κ σ) (hF : FZ D κ z) (hV : WV σ) (hT : WT σ) (x1 x2 x3 x4 x5 : Int32) : BN D κ σ τ z (fun n => Ti_limit_f n (D.1 0 0) x1 x2 x3 x4 x5 (rn D κ)) (fun n => Mo_limit_f n x1 x2 x3 x4 x5 σ τ) := by
  have k0 := h.1.2.1 0 (by decide) (by decide) (by decide)
  have k1 := h.1.k1
  have hD := h.1.1
  rcases pl_or h x1 x2 with ⟨m, p, hm, hp, rfl, rfl⟩ | ⟨o1, o2⟩
  · have hm3 : m < 3 := by have := h.2.2.1.2; omega
    have hp6 : p < 6 := by have := (h.2.2.2.1 m hm3).1.2; omega
    have c1 := h.pl hm hp
    have c2 := isPlace_in (τ := τ) (h.2.2.eq (yq_0 σ)) (m := m) (p := p) (by rw [su_n (by decide)]; exact hm) (by rw [su_n (by decide)]; exact hp)
    have k13 := h.k13 hm hp
    have y := (h.2.1.2 m hm).2.1 p hp
    have s4 := h.2.2.2.2.1 (6 * m + p) (by omega)
    rcases clk_or x3 with ⟨k, hk1, hk4, rfl, q1⟩ | ⟨q1, q2⟩
    · rcases btw x4 0 100 0 100 (by decide) (by decide) with ⟨b1, b2, b3, b4⟩ | ⟨-, b3, b4⟩
      · have zz : (0 : Int32).toInt = 0 := by decide
        have hh : (100 : Int32).toInt = 100 := by decide
        rw [zz] at b1
        rw [hh] at b2
        have kz : ¬ (J k = 0) := by rw [J0, J_eq (by omega) (by omega)]; omega
        generalize hx : 6 * m + p = x at *
        have hx18 : x < 18 := by omega
        have e6 : (6 : Int32) * J m + J p = J x := by rw [J6, J_mul, J_add, hx]
        have nx : Int32.toNatClampNeg (J x) = x := J_nat (by omega)
        have xx : xin (J x) 18 = true := xin_J hx18 (by decide)
        by_cases g : N (σ 4 x) = 2
        · -- full
          have e4 : σ 4 x = 2 := by rw [s4.1, g]; rfl
          refine BN_no h hF hV hT (r := -2) ?_ ?_
          · unfold Ti_limit_f
            simp only [obd, bnd, oel, rd0 k0, rd1 k1, if_true, c1, kz, if_false, isClock_in hk4, b4, rd13 k13.1, y.1, e4]
            exact Ev.neg (by decide) (Ev.neg (by decide) (Ev.neg (by decide) Ev.ret))
          · unfold Mo_limit_f
            simp only [obd, bnd, c2, q1, b3, e6, xx, nx, if_true]
            refine Ev.neg (by decide) (Ev.neg (by decide) (Ev.neg (by decide) (Ev.pos ?_ Ev.ret)))
            rw [su_n (by decide)]; exact e4
        · have hc : N (σ 4 x) < 2 := by have := s4.2; omega
          have e4 : σ 4 x = J (N (σ 4 x)) := s4.1
          generalize hcn : N (σ 4 x) = c at hc e4 g
          have lt2 : J c < 2 := by rw [J2, J_lt (by omega) (by omega)]; omega
          have ne2 : ¬ (J c = 2) := by rw [J2, J_eq (by omega) (by omega)]; omega
          let κ' : kS := ku (ku (ku κ 14 x c (J k)) 15 x c (Mo_boundOf_f x4 x5)) 13 x 2 (J (c + 1))
          let σ' : mS := su (su (su (su σ 0 0 0) 5 (2 * x + c) (J k)) 6 (2 * x + c) (Mo_boundOf_f x4 x5)) 4 x (J (c + 1))
          have f14 : ∀ (v : Int32), ku κ 14 x c v 13 x 2 = J c := fun v => by rw [ku_k (by decide), y.1, e4]
          have f15 : ∀ (v w : Int32), ku (ku κ 14 x c v) 15 x c w 13 x 2 = J c := fun v w => by rw [ku_k (by decide), ku_k (by decide), y.1, e4]
          have e1c : J c + 1 = J (c + 1) := J_add c 1
          have kn : ∀ kd ix, ¬ (kd = 13 ∧ ix = x) → ¬ (kd = 14 ∧ ix = x) → ¬ (kd = 15 ∧ ix = x) → κ' kd ix = κ kd ix := fun kd ix n1 n2 n3 => by
            show ku (ku (ku κ 14 x c (J k)) 15 x c (Mo_boundOf_f x4 x5)) 13 x 2 (J (c + 1)) kd ix = _
            rw [ku_n n1, ku_n n3, ku_n n2]
          have k13x : κ' 13 x = fu (κ 13 x) 2 (J (c + 1)) := by
            show ku (ku (ku κ 14 x c (J k)) 15 x c (Mo_boundOf_f x4 x5)) 13 x 2 (J (c + 1)) 13 x = _
            rw [ku_e, ku_k (by decide), ku_k (by decide)]
          have k14x : κ' 14 x = fu (κ 14 x) c (J k) := by
            show ku (ku (ku κ 14 x c (J k)) 15 x c (Mo_boundOf_f x4 x5)) 13 x 2 (J (c + 1)) 14 x = _
            rw [ku_k (by decide), ku_k (by decide), ku_e]
          have k15x : κ' 15 x = fu (κ 15 x) c (Mo_boundOf_f x4 x5) := by
            show ku (ku (ku κ 14 x c (J k)) 15 x c (Mo_boundOf_f x4 x5)) 13 x 2 (J (c + 1)) 15 x = _
            rw [ku_k (by decide), ku_e, ku_k (by decide)]
          have sn : ∀ s b, s ≠ 0 → s ≠ 4 → s ≠ 5 → s ≠ 6 → σ' s b = σ s b := fun s b h0 h4 h5 h6 => by
            show su (su (su (su σ 0 0 0) 5 (2 * x + c) (J k)) 6 (2 * x + c) (Mo_boundOf_f x4 x5)) 4 x (J (c + 1)) s b = _
            rw [su_n h4, su_n h6, su_n h5, su_n h0]
          have s4' : ∀ b, σ' 4 b = if b = x then J (c + 1) else σ 4 b := fun b => by
            show su (su (su (su σ 0 0 0) 5 (2 * x + c) (J k)) 6 (2 * x + c) (Mo_boundOf_f x4 x5)) 4 x (J (c + 1)) 4 b = _
            by_cases q : b = x
            · rw [q, su_e, if_pos rfl]
            · rw [if_neg q]; simp [su, q]
          have s5' : ∀ b, σ' 5 b = if b = 2 * x + c then J k else σ 5 b := fun b => by
            show su (su (su (su σ 0 0 0) 5 (2 * x + c) (J k)) 6 (2 * x + c) (Mo_boundOf_f x4 x5)) 4 x (J (c + 1)) 5 b = _
            rw [su_n (by decide), su_n (by decide)]
            by_cases q : b = 2 * x + c
            · rw [q, su_e, if_pos rfl]
            · rw [if_neg q]; simp [su, q]
          have s6' : ∀ b, σ' 6 b = if b = 2 * x + c then Mo_boundOf_f x4 x5 else σ 6 b := fun b => by
            show su (su (su (su σ 0 0 0) 5 (2 * x + c) (J k)) 6 (2 * x + c) (Mo_boundOf_f x4 x5)) 4 x (J (c + 1)) 6 b = _
            rw [su_n (by decide)]
            by_cases q : b = 2 * x + c
            · rw [q, su_e, if_pos rfl]
            · rw [if_neg q]; simp [su, q]
          have n4' : ∀ b, N (σ' 4 b) = if b = x then c + 1 else N (σ 4 b) := fun b => by
            rw [s4']
            by_cases q : b = x
            · rw [if_pos q, if_pos q]; exact J_nat (by omega)
            · rw [if_neg q, if_neg q]
          have WY' : WY σ' := by
            obtain ⟨w1, w2, w3, w4, w5, w6⟩ := h.2.2
            refine ⟨by rw [sn 1 0 (by decide) (by decide) (by decide) (by decide)]; exact w1, fun m' hm' => by rw [sn 2 m' (by decide) (by decide) (by decide) (by decide), sn 3 m' (by decide) (by decide) (by decide) (by decide)]; exact w2 m' hm', fun b hb => ?_, fun b hb => ?_, fun b hb => ?_, fun b hb => ?_⟩
            · rw [s4']
              by_cases q : b = x
              · rw [if_pos q]; exact sml_J (by omega) (by decide)
              · rw [if_neg q]; exact w3 b hb
            · rw [s5']
              by_cases q : b = 2 * x + c
              · rw [if_pos q]; exact sml_J (by omega) (by decide)
              · rw [if_neg q]; exact w4 b hb
            · rw [sn 7 b (by decide) (by decide) (by decide) (by decide), sn 8 b (by decide) (by decide) (by decide) (by decide), sn 11 b (by decide) (by decide) (by decide) (by decide)]; exact w5 b hb
            · rw [sn 12 b (by decide) (by decide) (by decide) (by decide), sn 13 b (by decide) (by decide) (by decide) (by decide)]; exact w6 b hb
          have WV' : WV σ' := by
            refine ⟨fun b l hb hl => ?_, fun b t hb ht => ?_⟩
            · rw [n4'] at hl
              rw [s5', s6']
              by_cases q : b = x
              · rw [if_pos q] at hl
                by_cases ql : l = c
                · rw [if_pos (by omega), if_pos (by omega)]
                  refine ⟨by rw [show N (J k) = k from J_nat (by omega)]; exact hk1, ?_, ?_⟩
                  · unfold mk1
                    rcases bo_int (c := x4) (b := x5) (by omega) with t | t <;> rw [t] <;> omega
                  · rcases bo_int (c := x4) (b := x5) (by omega) with t | t <;> rw [t] <;> omega
                · rw [if_neg (by omega), if_neg (by omega)]
                  exact hV.1 b l hb (by rw [q, hcn]; omega)
              · rw [if_neg q] at hl
                have := (h.2.2.2.2.1 b hb).2
                rw [if_neg (by omega), if_neg (by omega)]
                exact hV.1 b l hb hl
            · rw [sn 11 b (by decide) (by decide) (by decide) (by decide)] at ht
              rw [sn 12 _ (by decide) (by decide) (by decide) (by decide), sn 13 _ (by decide) (by decide) (by decide) (by decide), sn 14 _ (by decide) (by decide) (by decide) (by decide)]
              exact hV.2 b t hb ht
          have WT' : WT σ' := fun a w ha hw => by
            rw [sn 1 0 (by decide) (by decide) (by decide) (by decide)] at ha
            rw [sn 3 a (by decide) (by decide) (by decide) (by decide)] at hw
            rw [sn 8 _ (by decide) (by decide) (by decide) (by decide), sn 2 a (by decide) (by decide) (by decide) (by decide)]
            exact hT a w ha hw
          have YR' : YR κ' σ' := by
            refine ⟨by rw [kn 1 0 (by omega) (by omega) (by omega), sn 1 0 (by decide) (by decide) (by decide) (by decide)]; exact h.2.1.1, fun m' hm' => ?_⟩
            rw [sn 1 0 (by decide) (by decide) (by decide) (by decide)] at hm'
            obtain ⟨ya, yb, yc⟩ := h.2.1.2 m' hm'
            rw [sn 2 m' (by decide) (by decide) (by decide) (by decide), sn 3 m' (by decide) (by decide) (by decide) (by decide), kn 10 m' (by omega) (by omega) (by omega)]
            refine ⟨ya, fun p' hp' => ?_, fun w hw => ?_⟩
            · have yb' := yb p' hp'
              have hb3 : m' < 3 := by have := h.2.2.1.2; omega
              have hp6' : p' < 6 := by have := (h.2.2.2.1 m' hb3).1.2; omega
              by_cases q : 6 * m' + p' = x
              · rw [q]
                refine ⟨by rw [k13x, fu_e, s4', if_pos rfl], fun l hl => ?_⟩
                rw [n4', if_pos rfl] at hl
                rw [k14x, k15x, s5', s6']
                by_cases ql : l = c
                · rw [ql, fu_e, fu_e, if_pos rfl, if_pos rfl]; exact ⟨rfl, rfl⟩
                · rw [fu_n ql, fu_n ql, if_neg (by omega), if_neg (by omega)]
                  exact y.2 l (by rw [hcn]; omega)
              · rw [kn 13 _ (by omega) (by omega) (by omega), kn 14 _ (by omega) (by omega) (by omega), kn 15 _ (by omega) (by omega) (by omega), n4', if_neg q, s4', if_neg q]
                refine ⟨yb'.1, fun l hl => ?_⟩
                have := (h.2.2.2.2.1 (6 * m' + p') (by omega)).2
                rw [s5', s6', if_neg (by omega), if_neg (by omega)]
                exact yb'.2 l hl
            · rw [kn 16 _ (by omega) (by omega) (by omega), kn 17 _ (by omega) (by omega) (by omega), kn 18 _ (by omega) (by omega) (by omega), sn 7 _ (by decide) (by decide) (by decide) (by decide), sn 8 _ (by decide) (by decide) (by decide) (by decide), sn 9 _ (by decide) (by decide) (by decide) (by decide), sn 10 _ (by decide) (by decide) (by decide) (by decide), sn 11 _ (by decide) (by decide) (by decide) (by decide)]
              have yw := yc w hw
              refine ⟨yw.1, fun t ht => ?_⟩
              rw [sn 12 _ (by decide) (by decide) (by decide) (by decide), sn 13 _ (by decide) (by decide) (by decide) (by decide), sn 14 _ (by decide) (by decide) (by decide) (by decide)]
              exact yw.2 t ht
          have xk : kxd κ κ' := ⟨by rw [kn 1 0 (by omega) (by omega) (by omega)], by funext y; exact kn 9 y (by omega) (by omega) (by omega), fun m => kn 10 m (by omega) (by omega) (by omega), fun d => kn 22 d (by omega) (by omega) (by omega)⟩
          have k3 : κ' 3 0 0 = κ 3 0 0 := by rw [kn 3 0 (by omega) (by omega) (by omega)]
          refine ⟨J (c + 1), κ', σ', ?_, ?_, ⟨h.1.cg xk k3, YR', WY'⟩, hF.cg xk k3, WV', WT', ⟨fun kd ix n1 n2 => kn kd ix (by omega) (by omega) (by omega), fun c' _ => by rw [kn 1 0 (by omega) (by omega) (by omega)]⟩, fun s b hs => sn s b (by omega) (by omega) (by omega) (by omega), fun mz m' h1 h2 => by
            rw [sn 1 0 (by decide) (by decide) (by decide) (by decide)] at h1
            rw [sn 2 m' (by decide) (by decide) (by decide) (by decide), sn 3 m' (by decide) (by decide) (by decide) (by decide)]
            exact mz m' h1 h2⟩
          · unfold Ti_limit_f
            simp only [obd, bnd, oel, rd0 k0, rd1 k1, if_true, c1, kz, if_false, isClock_in hk4, b4, rd13 k13.1, y.1, e4, lt2, krp14 hD k13.2.1 hc, f14, mark_bo, krp15 hD k13.2.2 hc, f15, rw13_2 hD k13.1, e1c]
            refine Ev.neg (by decide) (Ev.neg (by decide) ?_)
            have fin : ku (ku (ku κ 14 x c (J k)) 15 x c (Mo_boundOf_f x4 x5)) 13 x 2 (J (c + 1)) 13 x 2 = J (c + 1) := by rw [ku_e, fu_e]
            rw [fin]
            exact Ev.ret
          · unfold Mo_limit_f
            have t4 : su σ 0 0 0 4 x = J c := by rw [su_n (by decide), e4]
            have t4a : ∀ v, su (su σ 0 0 0) 5 (2 * x + c) v 4 x = J c := fun v => by rw [su_n (by decide)]; exact t4
            have t4b : ∀ v w, su (su (su σ 0 0 0) 5 (2 * x + c) v) 6 (2 * x + c) w 4 x = J c := fun v w => by rw [su_n (by decide)]; exact t4a v
            have e2 : (2 : Int32) * J x + J c = J (2 * x + c) := by rw [J2, J_mul, J_add]
            have xx2 : xin (J (2 * x + c)) 36 = true := xin_J (by omega) (by decide)
            have nx2 : Int32.toNatClampNeg (J (2 * x + c)) = 2 * x + c := J_nat (by omega)
            simp only [obd, bnd, c2, q1, b3, e6, xx, nx, if_true, t4, ne2, if_false, e2, xx2, nx2, t4a, t4b, e1c, su_e]
            exact Ev.neg (by decide) (Ev.neg (by decide) (Ev.neg (by decide) Ev.ret))
      · refine BN_no h hF hV hT (r := -1) ?_ ?_
        · unfold Ti_limit_f
          have kz : ¬ (J k = 0) := by rw [J0, J_eq (by omega) (by omega)]; omega
          simp only [obd, bnd, oel, rd0 k0, rd1 k1, if_true, c1, kz, if_false, isClock_in hk4, b4]
          exact Ev.neg (by decide) Ev.ret
        · unfold Mo_limit_f
          simp only [obd, bnd, c2, q1, b3, if_true]
          exact Ev.neg (by decide) (Ev.neg (by decide) Ev.ret)
    · refine BN_no h hF hV hT (r := -1) ?_ ?_
      · unfold Ti_limit_f
        simp only [obd, bnd, oel, rd0 k0, rd1 k1, if_true, c1]
        rcases q2 with q | ⟨q, q3⟩
        · exact Ev.pos q Ev.ret
        · refine Ev.neg q ?_
          simp only [q3, if_true]
          exact Ev.ret
      · unfold Mo_limit_f
        simp only [obd, bnd, c2, q1, if_true]
        exact Ev.neg (by decide) Ev.ret
  · refine BN_no h hF hV hT (r := -1) ?_ ?_
    · unfold Ti_limit_f
      simp only [obd, bnd, oel, rd0 k0, rd1 k1, if_true, o1]
      exact Ev.ret
    · unfold Mo_limit_f
      simp only [obd, bnd, o2 _ (yq_0 σ), if_true]
      exact Ev.ret
end BL
