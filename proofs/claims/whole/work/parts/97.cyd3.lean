/-! test: class and reference -/
section BT
variable {D : kD} {κ : kS} {σ : mS} {τ : mL} {z : Nat}
theorem pair_or (x : Int32) : (∃ i j, i < 4 ∧ j < 4 ∧ i ≠ j ∧ x = J (4 * i + j) ∧ Mo_isIn_f (Int32.toInt64 x) 0 15 = 1 ∧ ∀ n (h : xH), Ti_isPair_f n x h = some (1, h)) ∨ ((∀ n (h : xH), Ti_isPair_f n x h = some (0, h)) ∧ (Mo_isIn_f (Int32.toInt64 x) 0 15 = 0 ∨ (Mo_isIn_f (Int32.toInt64 x) 0 15 = 1 ∧ x / 4 = x - x / 4 * 4))) := by
  have a : (0 : Int64).toInt = 0 := by decide
  have b : (15 : Int64).toInt = 15 := by decide
  have z0 : (0 : Int32).toInt = 0 := by decide
  have z16 : (16 : Int32).toInt = 16 := by decide
  rw [isIn_is, a, b]
  by_cases g : 0 ≤ x.toInt ∧ x.toInt ≤ 15
  · have e := J_ti g.1
    have hm : x.toInt.toNat < 16 := by omega
    generalize x.toInt.toNat = m at e hm
    have em : m = 4 * (m / 4) + m % 4 := by omega
    rw [em] at e
    have d4 : x / 4 = J (m / 4) := by rw [e]; exact J_div4 (by omega) (by omega)
    have m4 : x - x / 4 * 4 = J (m % 4) := by rw [d4, e]; exact J_mod4 (by omega) (by omega)
    have n1 : ¬ x < 0 := by rw [i32_lt]; omega
    have n2 : ¬ (16 : Int32) ≤ x := by rw [i32_le]; omega
    by_cases q : m / 4 = m % 4
    · refine Or.inr ⟨fun n h => ?_, Or.inr ⟨if_pos g, by rw [m4, d4, q]⟩⟩
      unfold Ti_isPair_f
      rw [if_neg n1, if_neg n2, if_pos (by rw [m4, d4, q])]
    · refine Or.inl ⟨m / 4, m % 4, by omega, by omega, q, e, if_pos g, fun n h => ?_⟩
      unfold Ti_isPair_f
      rw [if_neg n1, if_neg n2, if_neg (by rw [m4, d4, J_eq (by omega) (by omega)]; exact q)]
  · refine Or.inr ⟨fun n h => ?_, Or.inl (if_neg g)⟩
    unfold Ti_isPair_f
    by_cases q : x < 0
    · rw [if_pos q]
    · rw [if_neg q, if_pos]
      rw [i32_lt] at q
      rw [i32_le]
      omega
theorem test_y (h : YW D κ σ) (hF : FZ D κ z) (hV : WV σ) (hT : WT σ) (x1 x2 x3 x4 x5 : Int32) : BN D κ σ τ z (fun n => Ti_test_f n (D.1 0 0) x1 x2 x3 x4 x5 (rn D κ)) (fun n => Mo_test_f n x1 x2 x3 x4 x5 σ τ) := by
  have k0 := h.1.2.1 0 (by decide) (by decide) (by decide)
  have k1 := h.1.k1
  have hD := h.1.1
  rcases wa_or h x1 x2 with ⟨m, p, hm, hp, rfl, rfl⟩ | ⟨o1, o2⟩
  · have hm3 : m < 3 := by have := h.2.2.1.2; omega
    have hp12 : p < 12 := by have := (h.2.2.2.1 m hm3).2.2; omega
    have c1 := h.wa hm hp
    have c2 := isWay_in (τ := τ) (h.2.2.eq (yq_0 σ)) (m := m) (p := p) (by rw [su_n (by decide)]; exact hm) (by rw [su_n (by decide)]; exact hp)
    have k16 := h.k16 hm hp
    have y := (h.2.1.2 m hm).2.2 p hp
    have s11 := (h.2.2.2.2.2.2.1 (12 * m + p) (by omega)).2.2
    rcases pair_or x3 with ⟨i, j, hi, hj, hij, rfl, q1, q2⟩ | ⟨q2, q1⟩
    · have d4 := J_div4 hi hj
      have m4 := J_mod4 hi hj
      have nij : ¬ (J i = J j) := by rw [J_eq (by omega) (by omega)]; exact hij
      rcases btw x4 (-100) 100 (-100) 100 (by decide) (by decide) with ⟨b1, b2, b3, b4⟩ | ⟨-, b3, b4⟩
      · have zz : (-100 : Int32).toInt = -100 := by decide
        have hh : (100 : Int32).toInt = 100 := by decide
        rw [zz] at b1
        rw [hh] at b2
        generalize hx : 12 * m + p = x at *
        have hx36 : x < 36 := by omega
        have e6 : (12 : Int32) * J m + J p = J x := by rw [J12, J_mul, J_add, hx]
        have nx : Int32.toNatClampNeg (J x) = x := J_nat (by omega)
        have xx : xin (J x) 36 = true := xin_J hx36 (by decide)
        by_cases g : N (σ 11 x) = 3
        · have e4 : σ 11 x = 3 := by rw [s11.1, g]; rfl
          refine BN_no h hF hV hT (r := -2) ?_ ?_
          · unfold Ti_test_f
            simp only [obd, bnd, oel, rd0 k0, rd1 k1, if_true, c1, q2, b4, rd16 k16.1, y.1, e4]
            exact Ev.neg (by decide) (Ev.neg (by decide) (Ev.neg (by decide) Ev.ret))
          · unfold Mo_test_f
            simp only [obd, bnd, c2, q1, b3, e6, xx, nx, if_true, d4, m4, nij, if_false]
            refine Ev.neg (by decide) (Ev.neg (by decide) (Ev.neg (by decide) (Ev.pos ?_ Ev.ret)))
            rw [su_n (by decide)]; exact e4
        · have hc : N (σ 11 x) < 3 := by have := s11.2; omega
          have e4 : σ 11 x = J (N (σ 11 x)) := s11.1
          generalize hcn : N (σ 11 x) = c at hc e4 g
          have lt3 : J c < 3 := by rw [J3, J_lt (by omega) (by omega)]; omega
          have ne3 : ¬ (J c = 3) := by rw [J3, J_eq (by omega) (by omega)]; omega
          let κ' : kS := ku (ku (ku κ 17 x c (J (4 * i + j))) 18 x c (Mo_boundOf_f x4 x5)) 16 x 6 (J (c + 1))
          let σ' : mS := su (su (su (su (su σ 0 0 0) 12 (3 * x + c) (J i)) 13 (3 * x + c) (J j)) 14 (3 * x + c) (Mo_boundOf_f x4 x5)) 11 x (J (c + 1))
          have y6 : κ 16 x 6 = J c := y.1.2.2.2.2.trans e4
          have f14 : ∀ (v : Int32), ku κ 17 x c v 16 x 6 = J c := fun v => by rw [ku_k (by decide), y6]
          have f15 : ∀ (v w : Int32), ku (ku κ 17 x c v) 18 x c w 16 x 6 = J c := fun v w => by rw [ku_k (by decide), ku_k (by decide), y6]
          have e1c : J c + 1 = J (c + 1) := J_add c 1
          have kn : ∀ kd ix, ¬ (kd = 16 ∧ ix = x) → ¬ (kd = 17 ∧ ix = x) → ¬ (kd = 18 ∧ ix = x) → κ' kd ix = κ kd ix := fun kd ix n1 n2 n3 => by
            show ku (ku (ku κ 17 x c (J (4 * i + j))) 18 x c (Mo_boundOf_f x4 x5)) 16 x 6 (J (c + 1)) kd ix = _
            rw [ku_n n1, ku_n n3, ku_n n2]
          have k16x : κ' 16 x = fu (κ 16 x) 6 (J (c + 1)) := by
            show ku (ku (ku κ 17 x c (J (4 * i + j))) 18 x c (Mo_boundOf_f x4 x5)) 16 x 6 (J (c + 1)) 16 x = _
            rw [ku_e, ku_k (by decide), ku_k (by decide)]
          have k17x : κ' 17 x = fu (κ 17 x) c (J (4 * i + j)) := by
            show ku (ku (ku κ 17 x c (J (4 * i + j))) 18 x c (Mo_boundOf_f x4 x5)) 16 x 6 (J (c + 1)) 17 x = _
            rw [ku_k (by decide), ku_k (by decide), ku_e]
          have k18x : κ' 18 x = fu (κ 18 x) c (Mo_boundOf_f x4 x5) := by
            show ku (ku (ku κ 17 x c (J (4 * i + j))) 18 x c (Mo_boundOf_f x4 x5)) 16 x 6 (J (c + 1)) 18 x = _
            rw [ku_k (by decide), ku_e, ku_k (by decide)]
          have sn : ∀ s b, s ≠ 0 → s ≠ 11 → s ≠ 12 → s ≠ 13 → s ≠ 14 → σ' s b = σ s b := fun s b h0 h11 h12 h13 h14 => by
            show su (su (su (su (su σ 0 0 0) 12 (3 * x + c) (J i)) 13 (3 * x + c) (J j)) 14 (3 * x + c) (Mo_boundOf_f x4 x5)) 11 x (J (c + 1)) s b = _
            rw [su_n h11, su_n h14, su_n h13, su_n h12, su_n h0]
          have s11' : ∀ b, σ' 11 b = if b = x then J (c + 1) else σ 11 b := fun b => by
            show su (su (su (su (su σ 0 0 0) 12 (3 * x + c) (J i)) 13 (3 * x + c) (J j)) 14 (3 * x + c) (Mo_boundOf_f x4 x5)) 11 x (J (c + 1)) 11 b = _
            by_cases q : b = x
            · rw [q, su_e, if_pos rfl]
            · rw [if_neg q]; simp [su, q]
          have s12' : ∀ b, σ' 12 b = if b = 3 * x + c then J i else σ 12 b := fun b => by
            show su (su (su (su (su σ 0 0 0) 12 (3 * x + c) (J i)) 13 (3 * x + c) (J j)) 14 (3 * x + c) (Mo_boundOf_f x4 x5)) 11 x (J (c + 1)) 12 b = _
            rw [su_n (by decide), su_n (by decide), su_n (by decide)]
            by_cases q : b = 3 * x + c
            · rw [q, su_e, if_pos rfl]
            · rw [if_neg q]; simp [su, q]
          have s13' : ∀ b, σ' 13 b = if b = 3 * x + c then J j else σ 13 b := fun b => by
            show su (su (su (su (su σ 0 0 0) 12 (3 * x + c) (J i)) 13 (3 * x + c) (J j)) 14 (3 * x + c) (Mo_boundOf_f x4 x5)) 11 x (J (c + 1)) 13 b = _
            rw [su_n (by decide), su_n (by decide)]
            by_cases q : b = 3 * x + c
            · rw [q, su_e, if_pos rfl]
            · rw [if_neg q]; simp [su, q]
          have s14' : ∀ b, σ' 14 b = if b = 3 * x + c then Mo_boundOf_f x4 x5 else σ 14 b := fun b => by
            show su (su (su (su (su σ 0 0 0) 12 (3 * x + c) (J i)) 13 (3 * x + c) (J j)) 14 (3 * x + c) (Mo_boundOf_f x4 x5)) 11 x (J (c + 1)) 14 b = _
            rw [su_n (by decide)]
            by_cases q : b = 3 * x + c
            · rw [q, su_e, if_pos rfl]
            · rw [if_neg q]; simp [su, q]
          have n11' : ∀ b, N (σ' 11 b) = if b = x then c + 1 else N (σ 11 b) := fun b => by
            rw [s11']
            by_cases q : b = x
            · rw [if_pos q, if_pos q]; exact J_nat (by omega)
            · rw [if_neg q, if_neg q]
          have nJi : N (J i) = i := J_nat (by omega)
          have nJj : N (J j) = j := J_nat (by omega)
          have WY' : WY σ' := by
            obtain ⟨w1, w2, w3, w4, w5, w6⟩ := h.2.2
            refine ⟨by rw [sn 1 0 (by decide) (by decide) (by decide) (by decide) (by decide)]; exact w1, fun m' hm' => by rw [sn 2 m' (by decide) (by decide) (by decide) (by decide) (by decide), sn 3 m' (by decide) (by decide) (by decide) (by decide) (by decide)]; exact w2 m' hm', fun b hb => by rw [sn 4 b (by decide) (by decide) (by decide) (by decide) (by decide)]; exact w3 b hb, fun b hb => by rw [sn 5 b (by decide) (by decide) (by decide) (by decide) (by decide)]; exact w4 b hb, fun b hb => ?_, fun b hb => ?_⟩
            · rw [sn 7 b (by decide) (by decide) (by decide) (by decide) (by decide), sn 8 b (by decide) (by decide) (by decide) (by decide) (by decide), s11']
              refine ⟨(w5 b hb).1, (w5 b hb).2.1, ?_⟩
              by_cases q : b = x
              · rw [if_pos q]; exact sml_J (by omega) (by decide)
              · rw [if_neg q]; exact (w5 b hb).2.2
            · rw [s12', s13']
              by_cases q : b = 3 * x + c
              · rw [if_pos q, if_pos q]; exact ⟨sml_J (by omega) (by decide), sml_J (by omega) (by decide)⟩
              · rw [if_neg q, if_neg q]; exact w6 b hb
          have WV' : WV σ' := by
            refine ⟨fun b l hb hl => ?_, fun b t hb ht => ?_⟩
            · rw [sn 4 b (by decide) (by decide) (by decide) (by decide) (by decide)] at hl
              rw [sn 5 _ (by decide) (by decide) (by decide) (by decide) (by decide), sn 6 _ (by decide) (by decide) (by decide) (by decide) (by decide)]
              exact hV.1 b l hb hl
            · rw [n11'] at ht
              rw [s12', s13', s14']
              by_cases q : b = x
              · rw [if_pos q] at ht
                by_cases ql : t = c
                · rw [if_pos (by omega), if_pos (by omega), if_pos (by omega)]
                  refine ⟨by rw [nJi, nJj]; exact hij, ?_⟩
                  unfold mk1
                  rcases bo_int (c := x4) (b := x5) (by omega) with t | t <;> rw [t] <;> omega
                · rw [if_neg (by omega), if_neg (by omega), if_neg (by omega)]
                  exact hV.2 b t hb (by rw [q, hcn]; omega)
              · rw [if_neg q] at ht
                have := (h.2.2.2.2.2.2.1 b hb).2.2.2
                rw [if_neg (by omega), if_neg (by omega), if_neg (by omega)]
                exact hV.2 b t hb ht
          have WT' : WT σ' := fun a w ha hw => by
            rw [sn 1 0 (by decide) (by decide) (by decide) (by decide) (by decide)] at ha
            rw [sn 3 a (by decide) (by decide) (by decide) (by decide) (by decide)] at hw
            rw [sn 8 _ (by decide) (by decide) (by decide) (by decide) (by decide), sn 2 a (by decide) (by decide) (by decide) (by decide) (by decide)]
            exact hT a w ha hw
          have YR' : YR κ' σ' := by
            refine ⟨by rw [kn 1 0 (by omega) (by omega) (by omega), sn 1 0 (by decide) (by decide) (by decide) (by decide) (by decide)]; exact h.2.1.1, fun m' hm' => ?_⟩
            rw [sn 1 0 (by decide) (by decide) (by decide) (by decide) (by decide)] at hm'
            obtain ⟨ya, yb, yc⟩ := h.2.1.2 m' hm'
            rw [sn 2 m' (by decide) (by decide) (by decide) (by decide) (by decide), sn 3 m' (by decide) (by decide) (by decide) (by decide) (by decide), kn 10 m' (by omega) (by omega) (by omega)]
            refine ⟨ya, fun p' hp' => ?_, fun w hw => ?_⟩
            · have yb' := yb p' hp'
              rw [kn 13 _ (by omega) (by omega) (by omega), kn 14 _ (by omega) (by omega) (by omega), kn 15 _ (by omega) (by omega) (by omega), sn 4 _ (by decide) (by decide) (by decide) (by decide) (by decide)]
              refine ⟨yb'.1, fun l hl => ?_⟩
              rw [sn 5 _ (by decide) (by decide) (by decide) (by decide) (by decide), sn 6 _ (by decide) (by decide) (by decide) (by decide) (by decide)]
              exact yb'.2 l hl
            · have hb3 : m' < 3 := by have := h.2.2.1.2; omega
              have hw12 : w < 12 := by have := (h.2.2.2.1 m' hb3).2.2; omega
              have yw := yc w hw
              rw [sn 7 _ (by decide) (by decide) (by decide) (by decide) (by decide), sn 8 _ (by decide) (by decide) (by decide) (by decide) (by decide), sn 9 _ (by decide) (by decide) (by decide) (by decide) (by decide), sn 10 _ (by decide) (by decide) (by decide) (by decide) (by decide)]
              by_cases q : 12 * m' + w = x
              · rw [q] at yw ⊢
                refine ⟨by rw [k16x, fu_n (by decide), fu_n (by decide), fu_n (by decide), fu_n (by decide), fu_e, s11', if_pos rfl]; exact ⟨yw.1.1, yw.1.2.1, yw.1.2.2.1, yw.1.2.2.2.1, rfl⟩, fun t ht => ?_⟩
                rw [n11', if_pos rfl] at ht
                rw [k17x, k18x, s12', s13', s14']
                by_cases ql : t = c
                · rw [ql, fu_e, fu_e, if_pos rfl, if_pos rfl, if_pos rfl, nJi, nJj]; exact ⟨rfl, rfl⟩
                · rw [fu_n ql, fu_n ql, if_neg (by omega), if_neg (by omega), if_neg (by omega)]
                  exact yw.2 t (by rw [hcn]; omega)
              · rw [kn 16 _ (by omega) (by omega) (by omega), kn 17 _ (by omega) (by omega) (by omega), kn 18 _ (by omega) (by omega) (by omega), n11', if_neg q, s11', if_neg q]
                refine ⟨yw.1, fun t ht => ?_⟩
                have := (h.2.2.2.2.2.2.1 (12 * m' + w) (by omega)).2.2.2
                rw [s12', s13', s14', if_neg (by omega), if_neg (by omega), if_neg (by omega)]
                exact yw.2 t ht
          have xk : kxd κ κ' := ⟨by rw [kn 1 0 (by omega) (by omega) (by omega)], by funext y; exact kn 9 y (by omega) (by omega) (by omega), fun m => kn 10 m (by omega) (by omega) (by omega), fun d => kn 22 d (by omega) (by omega) (by omega)⟩
          have k3 : κ' 3 0 0 = κ 3 0 0 := by rw [kn 3 0 (by omega) (by omega) (by omega)]
          refine ⟨J (c + 1), κ', σ', ?_, ?_, ⟨h.1.cg xk k3, YR', WY'⟩, hF.cg xk k3, WV', WT', ⟨fun kd ix n1 n2 => kn kd ix (by omega) (by omega) (by omega), fun c' _ => by rw [kn 1 0 (by omega) (by omega) (by omega)]⟩, fun s b hs => sn s b (by omega) (by omega) (by omega) (by omega) (by omega), fun mz m' h1 h2 => by
            rw [sn 1 0 (by decide) (by decide) (by decide) (by decide) (by decide)] at h1
            rw [sn 2 m' (by decide) (by decide) (by decide) (by decide) (by decide), sn 3 m' (by decide) (by decide) (by decide) (by decide) (by decide)]
            exact mz m' h1 h2⟩
          · unfold Ti_test_f
            simp only [obd, bnd, oel, rd0 k0, rd1 k1, if_true, c1, q2, b4, rd16 k16.1, y6, lt3, krp17 hD k16.2.1 hc, f14, mark_bo, krp18 hD k16.2.2 hc, f15, rw16_6 hD k16.1, e1c]
            refine Ev.neg (by decide) (Ev.neg (by decide) ?_)
            have fin : ku (ku (ku κ 17 x c (J (4 * i + j))) 18 x c (Mo_boundOf_f x4 x5)) 16 x 6 (J (c + 1)) 16 x 6 = J (c + 1) := by rw [ku_e, fu_e]
            rw [fin]
            exact Ev.ret
          · unfold Mo_test_f
            have t4 : su σ 0 0 0 11 x = J c := by rw [su_n (by decide), e4]
            have t4a : ∀ v, su (su σ 0 0 0) 12 (3 * x + c) v 11 x = J c := fun v => by rw [su_n (by decide)]; exact t4
            have t4b : ∀ v w, su (su (su σ 0 0 0) 12 (3 * x + c) v) 13 (3 * x + c) w 11 x = J c := fun v w => by rw [su_n (by decide)]; exact t4a v
            have t4c : ∀ v w u, su (su (su (su σ 0 0 0) 12 (3 * x + c) v) 13 (3 * x + c) w) 14 (3 * x + c) u 11 x = J c := fun v w u => by rw [su_n (by decide)]; exact t4b v w
            have e2 : (3 : Int32) * J x + J c = J (3 * x + c) := by rw [J3, J_mul, J_add]
            have xx2 : xin (J (3 * x + c)) 108 = true := xin_J (by omega) (by decide)
            have nx2 : Int32.toNatClampNeg (J (3 * x + c)) = 3 * x + c := J_nat (by omega)
            simp only [obd, bnd, c2, q1, b3, e6, xx, nx, if_true, d4, m4, nij, if_false, t4, ne3, e2, xx2, nx2, t4a, t4b, t4c, e1c, su_e]
            exact Ev.neg (by decide) (Ev.neg (by decide) (Ev.neg (by decide) Ev.ret))
      · refine BN_no h hF hV hT (r := -1) ?_ ?_
        · unfold Ti_test_f
          simp only [obd, bnd, oel, rd0 k0, rd1 k1, if_true, c1, q2, b4]
          exact Ev.neg (by decide) Ev.ret
        · unfold Mo_test_f
          simp only [obd, bnd, c2, q1, b3, if_true, d4, m4, nij, if_false]
          exact Ev.neg (by decide) (Ev.neg (by decide) Ev.ret)
    · refine BN_no h hF hV hT (r := -1) ?_ ?_
      · unfold Ti_test_f
        simp only [obd, bnd, oel, rd0 k0, rd1 k1, if_true, c1, q2]
        exact Ev.ret
      · unfold Mo_test_f
        rcases q1 with q | ⟨q, q3⟩
        · simp only [obd, bnd, c2, q, if_true]
          exact Ev.neg (by decide) Ev.ret
        · simp only [obd, bnd, c2, q]
          exact Ev.neg (by decide) (Ev.neg (by decide) (Ev.pos q3 Ev.ret))
  · refine BN_no h hF hV hT (r := -1) ?_ ?_
    · unfold Ti_test_f
      simp only [obd, bnd, oel, rd0 k0, rd1 k1, if_true, o1]
      exact Ev.ret
    · unfold Mo_test_f
      simp only [obd, bnd, o2 _ (yq_0 σ), if_true]
      exact Ev.ret
end BT
