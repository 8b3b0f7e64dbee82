/-! element -/
theorem ai_of {h : xH} {a kd n i : Nat} {f : Nat → Int32} (e : h a = some (.inl (kd, n, .inl f))) (hi : i < n) (hn : n < 1000) : ai h a kd (J i) = some (f i) := by
  unfold ai
  rw [e]
  dsimp only
  rw [if_pos rfl, if_pos (xin_J hi (by omega)), J_nat (by omega)]
theorem gl_of {h : xH} {a n i : Nat} {f : Nat → Int64} (e : h a = some (.inl (1, n, .inr (.inl f)))) (hi : i < n) (hn : n < 1000) : gl h a (J i) = some (f i) := by
  unfold gl
  rw [e]
  dsimp only
  rw [if_pos rfl, if_pos (xin_J hi (by omega)), J_nat (by omega)]
theorem J_pre {m : Nat} (hm : m ≤ 60) : (Int32.toInt64 (J m - 1)).toInt = (m : Int) - 1 := by
  rw [Int32.toInt_toInt64]
  rcases m with _ | m
  · decide
  · rw [J_sub1, J_int (by omega)]
    omega
section SH3
variable {D : kD} {κ : kS} {σ : mS} {τ : mL} {x : Nat}
theorem srow_size (k22 : kI D 22 x) (k23 : kI D 23 x) (e : κ 22 x 8 = 3) (n : Nat) : Sr_size_f n (D.1 22 x) (rn D κ) = some (J (N (κ 22 x 0)), rn D κ) := by
  unfold Sr_size_f
  rw [gq_of (k := 0) (h22S k22 e) rfl]
  simp only [obd]
  rw [al_of (h23S k23 e)]
theorem lrow_size (k22 : kI D 22 x) (k23 : kI D 23 x) (e : κ 22 x 8 = 4) (n : Nat) : Lr_size_f n (D.1 22 x) (rn D κ) = some (J (N (κ 22 x 0)), rn D κ) := by
  unfold Lr_size_f
  rw [gq_of (k := 0) (h22L k22 e) rfl]
  simp only [obd]
  rw [al_of (h23L k23 e)]
theorem srow_val (k22 : kI D 22 x) (k23 : kI D 23 x) (e : κ 22 x 8 = 3) {i : Nat} (hi : i < N (κ 22 x 0)) (hn : N (κ 22 x 0) ≤ 60) (n : Nat) : Sr_valueAt_f n (D.1 22 x) (J i) (rn D κ) = some (Int32.toInt64 (κ 23 x i), rn D κ) := by
  unfold Sr_valueAt_f
  rw [if_neg (J_nneg (by omega)), gq_of (k := 0) (h22S k22 e) rfl]
  simp only [obd]
  rw [al_of (h23S k23 e)]
  simp only
  rw [if_neg (by rw [J_le (by omega) (by omega)]; omega), ai_of (h23S k23 e) hi (by omega)]
theorem lrow_val (k22 : kI D 22 x) (k23 : kI D 23 x) (e : κ 22 x 8 = 4) {i : Nat} (hi : i < N (κ 22 x 0)) (hn : N (κ 22 x 0) ≤ 60) (n : Nat) : Lr_valueAt_f n (D.1 22 x) (J i) (rn D κ) = some (D.2.2.2 x i, rn D κ) := by
  unfold Lr_valueAt_f
  rw [if_neg (J_nneg (by omega)), gq_of (k := 0) (h22L k22 e) rfl]
  simp only [obd]
  rw [al_of (h23L k23 e)]
  simp only
  rw [if_neg (by rw [J_le (by omega) (by omega)]; omega), gl_of (h23L k23 e) hi (by omega)]
theorem element_rt (h : YW D κ σ) (S : SH D κ σ τ) (y u : Int32) : RTh Int64 D κ σ τ (fun n => Ti_element_f n (D.1 0 0) y u (rn D κ)) (fun n => Mo_element_f n y u σ τ) := by
  have k0 := h.1.2.1 0 (by decide) (by decide) (by decide)
  have k9 := h.1.2.1 9 (by decide) (by decide) (by decide)
  rcases sh_or y with ⟨d, hd, rfl, e1, e2⟩ | ⟨e1, e2⟩
  · have nd : Int32.toNatClampNeg (J d) = d := J_nat (by omega)
    have xd : xin (J d) 8 = true := xin_J hd (by decide)
    have n10 : ¬ (Mo_isShelf_f (J d) = 0) := by rw [e2]; decide
    have preR : ∀ {R}, Ev (fun n : Nat => if σ 46 d ≤ 2 then some ((0 : Int64), su σ 0 0 2, τ) else if Mo_isIn_f (Int32.toInt64 u) 0 (Int32.toInt64 (σ 47 d - 1)) = 0 then some ((0 : Int64), su σ 0 0 2, τ) else if xin ((60 : Int32) * J d + u) 480 = true then some (τ 50 (Int32.toNatClampNeg ((60 : Int32) * J d + u)), su σ 0 0 0, τ) else none) R → Ev (fun n => Mo_element_f n (J d) u σ τ) R := fun {R} e => by
      unfold Mo_element_f
      simp only [bnd, nd, xd, if_true, n10, if_false]
      exact e
    have two : ∀ {R : Int64 × Nat × xH}, Ev (fun n => Ti_element_f n (D.1 0 0) (J d) u (rn D κ)) (0, 2, rn D κ) → Ev (fun n => Mo_element_f n (J d) u σ τ) (0, su σ 0 0 2, τ) → RTh Int64 D κ σ τ (fun n => Ti_element_f n (D.1 0 0) (J d) u (rn D κ)) (fun n => Mo_element_f n (J d) u σ τ) := fun a b => ⟨0, 2, 0, a, b, by omega, fun t => absurd t (by decide)⟩
    rcases S.1 d hd with ⟨a, b⟩ | ⟨a, b⟩
    · refine two (R := (0, 2, rn D κ)) ?_ (preR (Ev.pos (by rw [b]; decide) Ev.ret))
      unfold Ti_element_f
      exact Ev.ob ⟨0, fun n _ => e1 n _⟩ (Ev.neg i10 (Ev.ob (Ev.cn (a := some (D.1 9 0)) (by simp only [rd0 k0])) (Ev.obs (Ev.ob (Ev.cn (a := none) (by rw [rq9 k9 hd, if_pos a])) (Ev.oeN Ev.ret)))))
    · obtain ⟨k22, k23, -⟩ := h.1.2.2.2.2.2 d hd a
      have q9 : aq (rn D κ) (D.1 9 0) 8 (J d) = some (some (D.1 22 (N (κ 9 1 d)))) := by rw [rq9 k9 hd, if_neg a]
      generalize N (κ 9 1 d) = x at b k22 k23 q9
      have pre : ∀ {R}, Ev (fun n => (if kc (rn D κ) (D.1 22 x) 6 = true then some ((0 : Int64), 2, rn D κ) else (if kc (rn D κ) (D.1 22 x) 7 = true then some (0, 2, rn D κ) else (if kc (rn D κ) (D.1 22 x) 8 = true then (if kc (rn D κ) (D.1 22 x) 8 = true then (if u < 0 then some (0, 2, rn D κ) else (if kc (rn D κ) (D.1 22 x) 8 = true then obd (Sr_size_f n (D.1 22 x) (rn D κ)) (fun r32 => (if r32.1 ≤ u then some (0, 2, r32.2) else (if kc r32.2 (D.1 22 x) 8 = true then obd (Sr_valueAt_f n (D.1 22 x) u r32.2) (fun r37 => some (r37.1, 0, r37.2)) else none))) else none)) else none) else (if kc (rn D κ) (D.1 22 x) 9 = true then (if kc (rn D κ) (D.1 22 x) 9 = true then (if u < 0 then some (0, 2, rn D κ) else (if kc (rn D κ) (D.1 22 x) 9 = true then obd (Lr_size_f n (D.1 22 x) (rn D κ)) (fun r48 => (if r48.1 ≤ u then some (0, 2, r48.2) else (if kc r48.2 (D.1 22 x) 9 = true then obd (Lr_valueAt_f n (D.1 22 x) u r48.2) (fun r53 => some (r53.1, 0, r53.2)) else none))) else none)) else none) else none))))) R → Ev (fun n => Ti_element_f n (D.1 0 0) (J d) u (rn D κ)) R := fun {R} e => by
        unfold Ti_element_f
        exact Ev.ob ⟨0, fun n _ => e1 n _⟩ (Ev.neg i10 (Ev.ob (Ev.cn (a := some (D.1 9 0)) (by simp only [rd0 k0])) (Ev.obs (Ev.ob (Ev.cn q9) (Ev.oeS e)))))
      have z : (0 : Int32).toInt = 0 := by decide
      -- the reference: inside or outside of the row
      have inn : ∀ {m : Nat}, m ≤ 60 → σ 47 d = J m → Mo_isIn_f (Int32.toInt64 u) 0 (Int32.toInt64 (σ 47 d - 1)) = if 0 ≤ u.toInt ∧ u.toInt ≤ (m : Int) - 1 then 1 else 0 := fun {m} hm e => by
        rw [e]
        exact isN u 0 _ (by decide) (J_pre hm)
      have val : ∀ i, i < 60 → u = J i → xin ((60 : Int32) * J d + u) 480 = true ∧ Int32.toNatClampNeg ((60 : Int32) * J d + u) = 60 * d + i := fun i hi e => by
        rw [e, show (60 : Int32) = J 60 from rfl, J_mul, J_add]
        exact ⟨xin_J (by omega) (by decide), J_nat (by omega)⟩
      have small : σ 46 d = 1 ∨ σ 46 d = 2 → σ 46 d ≤ 2 := fun t => by rcases t with t | t <;> (rw [t]; decide)
      rcases b with ⟨b1, b2, -⟩ | ⟨b1, b2, -⟩ | ⟨b1, b2, b3, b4, b5⟩ | ⟨b1, b2, b3, b4, b5⟩
      · have hc := h22W (κ := κ) k22 b2
        exact two (R := (0, 2, rn D κ)) (pre (Ev.neg (by rw [kc_of hc]; decide) (Ev.pos (by rw [kc_of hc]; decide) Ev.ret))) (preR (Ev.pos (small (Or.inl b1)) Ev.ret))
      · have hc := h22P (κ := κ) k22 b2
        exact two (R := (0, 2, rn D κ)) (pre (Ev.pos (by rw [kc_of hc]; decide) Ev.ret)) (preR (Ev.pos (small (Or.inr b1)) Ev.ret))
      · have hc := h22S (κ := κ) k22 b2
        have hm := b4.2
        have ii := inn hm b4.1
        have c8 : kc (rn D κ) (D.1 22 x) 8 = true := by rw [kc_of hc]; decide
        have pre2 : ∀ {R}, Ev (fun n => (if u < 0 then some ((0 : Int64), 2, rn D κ) else (if kc (rn D κ) (D.1 22 x) 8 = true then obd (Sr_size_f n (D.1 22 x) (rn D κ)) (fun r32 => (if r32.1 ≤ u then some (0, 2, r32.2) else (if kc r32.2 (D.1 22 x) 8 = true then obd (Sr_valueAt_f n (D.1 22 x) u r32.2) (fun r37 => some (r37.1, 0, r37.2)) else none))) else none))) R → Ev (fun n => Ti_element_f n (D.1 0 0) (J d) u (rn D κ)) R := fun {R} e => pre (Ev.neg (by rw [kc_of hc]; decide) (Ev.neg (by rw [kc_of hc]; decide) (Ev.pos c8 (Ev.pos c8 e))))
        have n2 : ¬ (σ 46 d ≤ 2) := by rw [b1]; decide
        have sz := fun n => srow_size (κ := κ) k22 k23 b2 n
        rw [b3] at sz
        by_cases g : 0 ≤ u.toInt ∧ u.toInt ≤ (N (σ 47 d) : Int) - 1
        · rw [if_pos g] at ii
          have hi : u.toInt.toNat < N (σ 47 d) := by omega
          have eu := J_ti g.1
          generalize u.toInt.toNat = i at eu hi
          obtain ⟨v1, v2⟩ := val i (by omega) eu
          refine ⟨Int32.toInt64 (κ 23 x i), 0, τ 50 (60 * d + i), pre2 ?_, preR (Ev.neg n2 (Ev.neg (by rw [ii]; decide) ?_)), by omega, fun _ => (b5 i hi).1⟩
          · refine Ev.neg (by rw [eu]; exact J_nneg (by omega)) (Ev.pos c8 (Ev.ob ⟨0, fun n _ => sz n⟩ (Ev.neg (by rw [eu, J_le (by omega) (by omega)]; omega) (Ev.pos c8 ?_))))
            rw [eu]
            exact Ev.ob ⟨0, fun n _ => srow_val k22 k23 b2 (by rw [b3]; exact hi) (by rw [b3]; exact hm) n⟩ Ev.ret
          · rw [v2]
            exact Ev.pos v1 Ev.ret
        · rw [if_neg g] at ii
          refine two (R := (0, 2, rn D κ)) (pre2 ?_) (preR (Ev.neg n2 (Ev.pos ii Ev.ret)))
          by_cases g0 : u < 0
          · exact Ev.pos g0 Ev.ret
          · refine Ev.neg g0 (Ev.pos c8 (Ev.ob ⟨0, fun n _ => sz n⟩ (Ev.pos ?_ Ev.ret)))
            show J (N (σ 47 d)) ≤ u
            rw [i32_le, J_int (by omega)]
            rw [i32_lt] at g0
            omega
      · have hc := h22L (κ := κ) k22 b2
        have hm := b4.2
        have ii := inn hm b4.1
        have c9 : kc (rn D κ) (D.1 22 x) 9 = true := by rw [kc_of hc]; decide
        have pre2 : ∀ {R}, Ev (fun n => (if u < 0 then some ((0 : Int64), 2, rn D κ) else (if kc (rn D κ) (D.1 22 x) 9 = true then obd (Lr_size_f n (D.1 22 x) (rn D κ)) (fun r48 => (if r48.1 ≤ u then some (0, 2, r48.2) else (if kc r48.2 (D.1 22 x) 9 = true then obd (Lr_valueAt_f n (D.1 22 x) u r48.2) (fun r53 => some (r53.1, 0, r53.2)) else none))) else none))) R → Ev (fun n => Ti_element_f n (D.1 0 0) (J d) u (rn D κ)) R := fun {R} e => pre (Ev.neg (by rw [kc_of hc]; decide) (Ev.neg (by rw [kc_of hc]; decide) (Ev.neg (by rw [kc_of hc]; decide) (Ev.pos c9 (Ev.pos c9 e)))))
        have n2 : ¬ (σ 46 d ≤ 2) := by rw [b1]; decide
        have sz := fun n => lrow_size (κ := κ) k22 k23 b2 n
        rw [b3] at sz
        by_cases g : 0 ≤ u.toInt ∧ u.toInt ≤ (N (σ 47 d) : Int) - 1
        · rw [if_pos g] at ii
          have hi : u.toInt.toNat < N (σ 47 d) := by omega
          have eu := J_ti g.1
          generalize u.toInt.toNat = i at eu hi
          obtain ⟨v1, v2⟩ := val i (by omega) eu
          refine ⟨D.2.2.2 x i, 0, τ 50 (60 * d + i), pre2 ?_, preR (Ev.neg n2 (Ev.neg (by rw [ii]; decide) ?_)), by omega, fun _ => b5 i hi⟩
          · refine Ev.neg (by rw [eu]; exact J_nneg (by omega)) (Ev.pos c9 (Ev.ob ⟨0, fun n _ => sz n⟩ (Ev.neg (by rw [eu, J_le (by omega) (by omega)]; omega) (Ev.pos c9 ?_))))
            rw [eu]
            exact Ev.ob ⟨0, fun n _ => lrow_val k22 k23 b2 (by rw [b3]; exact hi) (by rw [b3]; exact hm) n⟩ Ev.ret
          · rw [v2]
            exact Ev.pos v1 Ev.ret
        · rw [if_neg g] at ii
          refine two (R := (0, 2, rn D κ)) (pre2 ?_) (preR (Ev.neg n2 (Ev.pos ii Ev.ret)))
          by_cases g0 : u < 0
          · exact Ev.pos g0 Ev.ret
          · refine Ev.neg g0 (Ev.pos c9 (Ev.ob ⟨0, fun n _ => sz n⟩ (Ev.pos ?_ Ev.ret)))
            show J (N (σ 47 d)) ≤ u
            rw [i32_le, J_int (by omega)]
            rw [i32_lt] at g0
            omega
  · refine ⟨0, 1, 0, ?_, ?_, by omega, fun t => absurd t (by decide)⟩
    · unfold Ti_element_f
      exact Ev.ob ⟨0, fun n _ => e1 n _⟩ (Ev.pos rfl Ev.ret)
    · unfold Mo_element_f
      simp only [bnd, e2, if_true]
      exact Ev.ret
end SH3
