def Ya_tryTakers_t0 (f : Nat → Option Nat → Int32 → Int32 → Int32 → Int32 → Int32 → xH → Nat → Option (Int32 × xH × Nat × Nat)) (n : Nat) (o : Nat) (y1 : Option Nat) (x2 : Int32) (x3 : Int32) (x4 : Int32) (x5 : Int32) (x6 : Int32) (h : xH) (z : Nat) : Option (Int32 × xH × Nat × Nat) := f 3 (y1) (x2) (x3) (x4) ((0 : Int32)) 0 h (z)
def Ya_tryTakers_t3 (f : Nat → Option Nat → Int32 → Int32 → Int32 → Int32 → Int32 → xH → Nat → Option (Int32 × xH × Nat × Nat)) (n : Nat) (o : Nat) (y1 : Option Nat) (x2 : Int32) (x3 : Int32) (x4 : Int32) (x5 : Int32) (x6 : Int32) (h : xH) (z : Nat) : Option (Int32 × xH × Nat × Nat) := obd (gi h (o) 3 1) (fun u1 => (if u1 ≤ x5 then some ((1 : Int32), h, 0, 0) else f 15 (y1) (x2) (x3) (x4) (x5) ((0 : Int32)) h (z)))
def Ya_tryTakers_t15 (f : Nat → Option Nat → Int32 → Int32 → Int32 → Int32 → Int32 → xH → Nat → Option (Int32 × xH × Nat × Nat)) (n : Nat) (o : Nat) (y1 : Option Nat) (x2 : Int32) (x3 : Int32) (x4 : Int32) (x5 : Int32) (x6 : Int32) (h : xH) (z : Nat) : Option (Int32 × xH × Nat × Nat) := (if (12 : Int32) ≤ x6 then f 3 (y1) (x2) (x3) (x4) (x5 + 1) 0 h (z) else (if x5 = x2 then f 3 (y1) (x2) (x3) (x4) (x5 + 1) 0 h (z) else (if kc h (o) 3 = true then obd (Ya_wayFrom_f n (o) (y1) (x5) (x6) h) (fun r9 => bnd (r9.1) (fun w10 => oel (w10) (f 15 (y1) (x2) (x3) (x4) (x5) (x6 + 1) r9.2 (z)) (fun a12 => obd (gi r9.2 (a12) 7 2) (fun u14 => (if u14 = -(x4) then (if kc r9.2 (o) 3 = true then obd (Ya_tryMove_f n (o) (y1) (x2) (x3) (x5) (x6) r9.2 (z)) (fun r20 => oadd r20.2.2.1 r20.2.2.2 ((if r20.1 = 0 then some ((0 : Int32), r20.2.1, 0, 0) else f 15 (y1) (x2) (x3) (x4) (x5) (x6 + 1) r20.2.1 (z + r20.2.2.1)))) else none) else f 15 (y1) (x2) (x3) (x4) (x5) (x6 + 1) r9.2 (z)))))) else none)))
def Ya_tryTakers_f : Nat → Nat → Nat → Option Nat → Int32 → Int32 → Int32 → Int32 → Int32 → xH → Nat → Option (Int32 × xH × Nat × Nat)
  | 0 => fun _ _ _ _ _ _ _ _ _ _ => none
  | n + 1 => fun p o y1 x2 x3 x4 x5 x6 h z => if p = 0 then Ya_tryTakers_t0 (fun p y1 x2 x3 x4 x5 x6 h z => Ya_tryTakers_f n p o y1 x2 x3 x4 x5 x6 h z) n o y1 x2 x3 x4 x5 x6 h z else if p = 3 then Ya_tryTakers_t3 (fun p y1 x2 x3 x4 x5 x6 h z => Ya_tryTakers_f n p o y1 x2 x3 x4 x5 x6 h z) n o y1 x2 x3 x4 x5 x6 h z else if p = 15 then Ya_tryTakers_t15 (fun p y1 x2 x3 x4 x5 x6 h z => Ya_tryTakers_f n p o y1 x2 x3 x4 x5 x6 h z) n o y1 x2 x3 x4 x5 x6 h z else none
theorem Ya_tryTakers_e0 (n : Nat) (o : Nat) (y1 : Option Nat) (x2 : Int32) (x3 : Int32) (x4 : Int32) (x5 : Int32) (x6 : Int32) (h : xH) (z : Nat) : Ya_tryTakers_f (n + 1) 0 o y1 x2 x3 x4 x5 x6 h z = Ya_tryTakers_t0 (fun p y1 x2 x3 x4 x5 x6 h z => Ya_tryTakers_f n p o y1 x2 x3 x4 x5 x6 h z) n o y1 x2 x3 x4 x5 x6 h z := by
  show (if 0 = 0 then Ya_tryTakers_t0 (fun p y1 x2 x3 x4 x5 x6 h z => Ya_tryTakers_f n p o y1 x2 x3 x4 x5 x6 h z) n o y1 x2 x3 x4 x5 x6 h z else if 0 = 3 then Ya_tryTakers_t3 (fun p y1 x2 x3 x4 x5 x6 h z => Ya_tryTakers_f n p o y1 x2 x3 x4 x5 x6 h z) n o y1 x2 x3 x4 x5 x6 h z else if 0 = 15 then Ya_tryTakers_t15 (fun p y1 x2 x3 x4 x5 x6 h z => Ya_tryTakers_f n p o y1 x2 x3 x4 x5 x6 h z) n o y1 x2 x3 x4 x5 x6 h z else none) = _
  rw [if_pos rfl]
theorem Ya_tryTakers_e3 (n : Nat) (o : Nat) (y1 : Option Nat) (x2 : Int32) (x3 : Int32) (x4 : Int32) (x5 : Int32) (x6 : Int32) (h : xH) (z : Nat) : Ya_tryTakers_f (n + 1) 3 o y1 x2 x3 x4 x5 x6 h z = Ya_tryTakers_t3 (fun p y1 x2 x3 x4 x5 x6 h z => Ya_tryTakers_f n p o y1 x2 x3 x4 x5 x6 h z) n o y1 x2 x3 x4 x5 x6 h z := by
  show (if 3 = 0 then Ya_tryTakers_t0 (fun p y1 x2 x3 x4 x5 x6 h z => Ya_tryTakers_f n p o y1 x2 x3 x4 x5 x6 h z) n o y1 x2 x3 x4 x5 x6 h z else if 3 = 3 then Ya_tryTakers_t3 (fun p y1 x2 x3 x4 x5 x6 h z => Ya_tryTakers_f n p o y1 x2 x3 x4 x5 x6 h z) n o y1 x2 x3 x4 x5 x6 h z else if 3 = 15 then Ya_tryTakers_t15 (fun p y1 x2 x3 x4 x5 x6 h z => Ya_tryTakers_f n p o y1 x2 x3 x4 x5 x6 h z) n o y1 x2 x3 x4 x5 x6 h z else none) = _
  rw [if_neg (by decide), if_pos rfl]
theorem Ya_tryTakers_e15 (n : Nat) (o : Nat) (y1 : Option Nat) (x2 : Int32) (x3 : Int32) (x4 : Int32) (x5 : Int32) (x6 : Int32) (h : xH) (z : Nat) : Ya_tryTakers_f (n + 1) 15 o y1 x2 x3 x4 x5 x6 h z = Ya_tryTakers_t15 (fun p y1 x2 x3 x4 x5 x6 h z => Ya_tryTakers_f n p o y1 x2 x3 x4 x5 x6 h z) n o y1 x2 x3 x4 x5 x6 h z := by
  show (if 15 = 0 then Ya_tryTakers_t0 (fun p y1 x2 x3 x4 x5 x6 h z => Ya_tryTakers_f n p o y1 x2 x3 x4 x5 x6 h z) n o y1 x2 x3 x4 x5 x6 h z else if 15 = 3 then Ya_tryTakers_t3 (fun p y1 x2 x3 x4 x5 x6 h z => Ya_tryTakers_f n p o y1 x2 x3 x4 x5 x6 h z) n o y1 x2 x3 x4 x5 x6 h z else if 15 = 15 then Ya_tryTakers_t15 (fun p y1 x2 x3 x4 x5 x6 h z => Ya_tryTakers_f n p o y1 x2 x3 x4 x5 x6 h z) n o y1 x2 x3 x4 x5 x6 h z else none) = _
  rw [if_neg (by decide), if_neg (by decide), if_pos rfl]
set_option maxRecDepth 100000 in
set_option maxHeartbeats 8000000 in
theorem Ya_tryTakers_x {F : xF} {G : xG} {B mc ms : Nat} {o : Nat} (C : xC F G B cYa_tryTakers RYa 8 5 124 mc ms) (hr : (xFM F).sig.returnType = (some .boolean)) : ∀ (n : Nat) (y1 : Option Nat) (x2 : Int32) (x3 : Int32) (x4 : Int32) (x5 : Int32) (x6 : Int32) (h : xH) (z cs ss : Nat) (R : Int32 × xH × Nat × Nat) (Zf : Nat), cs + R.2.2.1 ≤ mc → ss + R.2.2.2 ≤ ms → Zf = z + R.2.2.1 → ((Ya_tryTakers_f n 0 o y1 x2 x3 x4 x5 x6 h z = some R → X F G B (xZ F G B (kP (some (.int R.1)) R.2.1 Zf) mc ms) 8 h z cs ss 0 [(0, .ref (o)), (1, va_rf (y1)), (2, .int (x2)), (3, .int (x3)), (4, .int (x4))] []) ∧ (Ya_tryTakers_f n 3 o y1 x2 x3 x4 x5 x6 h z = some R → X F G B (xZ F G B (kP (some (.int R.1)) R.2.1 Zf) mc ms) 8 h z cs ss 3 [(0, .ref (o)), (1, va_rf (y1)), (2, .int (x2)), (3, .int (x3)), (4, .int (x4)), (5, .int (x5))] []) ∧ (Ya_tryTakers_f n 15 o y1 x2 x3 x4 x5 x6 h z = some R → X F G B (xZ F G B (kP (some (.int R.1)) R.2.1 Zf) mc ms) 8 h z cs ss 15 [(0, .ref (o)), (1, va_rf (y1)), (2, .int (x2)), (3, .int (x3)), (4, .int (x4)), (5, .int (x5)), (6, .int (x6))] [])) := by
  intro n
  induction n with
  | zero => exact fun _ _ _ _ _ _ _ _ _ _ _ _ _ _ _ => ⟨(fun hR => nomatch (show (none : Option _) = some _ from hR)), (fun hR => nomatch (show (none : Option _) = some _ from hR)), (fun hR => nomatch (show (none : Option _) = some _ from hR))⟩
  | succ n ih =>
    intro y1 x2 x3 x4 x5 x6 h z cs ss R Zf hm hs hz
    refine ⟨fun hR => ?_, fun hR => ?_, fun hR => ?_⟩
    · rw [Ya_tryTakers_e0] at hR
      unfold Ya_tryTakers_t0 at hR
      refine X_iconst (v := 0) C dYa_tryTakers_0 rfl ?_
      refine X_istore (lv' := [(5, .int ((0 : Int32))), (0, .ref (o)), (1, va_rf (y1)), (2, .int (x2)), (3, .int (x3)), (4, .int (x4))]) C dYa_tryTakers_1 (by decide) (by simp [rf_cat, cat_i, cat_r, cat_l, rf_n, rf_s] <;> decide) ?_
      refine X_sub (lv' := [(0, .ref (o)), (1, va_rf ((y1))), (2, .int (x2)), (3, .int (x3)), (4, .int (x4)), (5, .int ((0 : Int32)))]) [1, 2, 3, 4, 5, 0] rfl ?_
      exact (ih (y1) (x2) (x3) (x4) ((0 : Int32)) 0 _ _ _ _ _ _ (by omega) (by omega) (by omega)).2.1 hR
    · rw [Ya_tryTakers_e3] at hR
      unfold Ya_tryTakers_t3 at hR
      refine X_iload C dYa_tryTakers_3 rfl ?_
      refine X_aload_n C dYa_tryTakers_5 rfl ?_
      have hq := o_bind hR
      clear hR
      obtain ⟨u1, hx5, hR⟩ := hq
      obtain ⟨fs2, he3, hv4⟩ := gi_e hx5
      refine X_get (k := 1) C oYa fwYa_43 he3 hv4 dYa_tryTakers_6 ?_
      refine X_icmp_ge (tgt := 83) C dYa_tryTakers_9 (by decide) (fun c6 => ?_) (fun c6 => ?_)
      · rw [if_pos c6] at hR
        refine X_iconst (v := 1) C dYa_tryTakers_83 rfl ?_
        have hR := Option.some.inj hR
        subst hR
        dsimp only at hm hs hz ⊢
        exact X_zret C hr rfl (by omega) (by omega) dYa_tryTakers_84 ⟨rfl, rfl, by omega⟩
      · rw [if_neg c6] at hR
        refine X_iconst (v := 0) C dYa_tryTakers_12 rfl ?_
        refine X_istore (lv' := [(6, .int ((0 : Int32))), (0, .ref (o)), (1, va_rf (y1)), (2, .int (x2)), (3, .int (x3)), (4, .int (x4)), (5, .int (x5))]) C dYa_tryTakers_13 (by decide) (by simp [rf_cat, cat_i, cat_r, cat_l, rf_n, rf_s] <;> decide) ?_
        refine X_sub (lv' := [(0, .ref (o)), (1, va_rf ((y1))), (2, .int (x2)), (3, .int (x3)), (4, .int (x4)), (5, .int (x5)), (6, .int ((0 : Int32)))]) [1, 2, 3, 4, 5, 6, 0] rfl ?_
        exact (ih (y1) (x2) (x3) (x4) (x5) ((0 : Int32)) _ _ _ _ _ _ (by omega) (by omega) (by omega)).2.2 hR
    · rw [Ya_tryTakers_e15] at hR
      unfold Ya_tryTakers_t15 at hR
      refine X_iload C dYa_tryTakers_15 rfl ?_
      refine X_bipush (v := 12) C dYa_tryTakers_17 (by decide) ?_
      refine X_icmp_ge (tgt := 77) C dYa_tryTakers_19 (by decide) (fun c7 => ?_) (fun c7 => ?_)
      · rw [if_pos c7] at hR
        refine X_iinc (v := x5 + 1) (lv' := [(5, .int (x5 + 1)), (0, .ref (o)), (1, va_rf (y1)), (2, .int (x2)), (3, .int (x3)), (4, .int (x4)), (6, .int (x6))]) C dYa_tryTakers_77 rfl rfl (by decide) (by simp [rf_cat, cat_i, cat_r, cat_l, rf_n, rf_s] <;> decide) ?_
        refine X_goto (tgt := 3) C dYa_tryTakers_80 (by decide) ?_
        refine X_sub (lv' := [(0, .ref (o)), (1, va_rf ((y1))), (2, .int (x2)), (3, .int (x3)), (4, .int (x4)), (5, .int (x5 + 1))]) [1, 2, 3, 4, 5, 0] rfl ?_
        exact (ih (y1) (x2) (x3) (x4) (x5 + 1) 0 _ _ _ _ _ _ (by omega) (by omega) (by omega)).2.1 hR
      · rw [if_neg c7] at hR
        refine X_iload C dYa_tryTakers_22 rfl ?_
        refine X_iload_n C dYa_tryTakers_24 rfl ?_
        refine X_icmp_eq (tgt := 77) C dYa_tryTakers_25 (by decide) (fun c8 => ?_) (fun c8 => ?_)
        · rw [if_pos c8] at hR
          refine X_iinc (v := x5 + 1) (lv' := [(5, .int (x5 + 1)), (0, .ref (o)), (1, va_rf (y1)), (2, .int (x2)), (3, .int (x3)), (4, .int (x4)), (6, .int (x6))]) C dYa_tryTakers_77 rfl rfl (by decide) (by simp [rf_cat, cat_i, cat_r, cat_l, rf_n, rf_s] <;> decide) ?_
          refine X_goto (tgt := 3) C dYa_tryTakers_80 (by decide) ?_
          refine X_sub (lv' := [(0, .ref (o)), (1, va_rf ((y1))), (2, .int (x2)), (3, .int (x3)), (4, .int (x4)), (5, .int (x5 + 1))]) [1, 2, 3, 4, 5, 0] rfl ?_
          exact (ih (y1) (x2) (x3) (x4) (x5 + 1) 0 _ _ _ _ _ _ (by omega) (by omega) (by omega)).2.1 hR
        · rw [if_neg c8] at hR
          refine X_aload_n C dYa_tryTakers_28 rfl ?_
          refine X_aload_nq C dYa_tryTakers_29 rfl ?_
          refine X_iload C dYa_tryTakers_30 rfl ?_
          refine X_iload C dYa_tryTakers_32 rfl ?_
          have hq := o_if hR
          clear hR
          obtain ⟨k27, hR⟩ := hq
          obtain ⟨fs28, he29⟩ := kc_e k27
          have hq := o_bind hR
          clear hR
          obtain ⟨r9, hr9, hR⟩ := hq
          refine X_callVk (As := [va_rf (y1), .int (x5), .int (x6)]) (rest := []) C (Ya_wayFrom_c hr9) wYa_171 ⟨by decide, by decide⟩ ⟨by omega, by omega⟩ he29 oYa.2.1 rfl rfl (Nat.le_of_ble_eq_true rfl) dYa_tryTakers_34 ?_
          show X F G B _ 8 (r9.2) _ _ _ _ _ [va_rf (r9.1)]
          have hq := b_bnd hR
          clear hR
          obtain ⟨w10, e11, hR⟩ := hq
          rw [← e11]
          refine X_astoreq (lv' := [(7, va_rf (w10)), (0, .ref (o)), (1, va_rf (y1)), (2, .int (x2)), (3, .int (x3)), (4, .int (x4)), (5, .int (x5)), (6, .int (x6))]) C dYa_tryTakers_37 (by decide) (by simp [rf_cat, cat_i, cat_r, cat_l, rf_n, rf_s] <;> decide) ?_
          refine X_aloadq C dYa_tryTakers_39 rfl ?_
          refine X_ifnullq (tgt := 71) C dYa_tryTakers_41 (by decide) (fun e13 => ?_) (fun a12 e13 => ?_)
          · subst e13
            rw [oel_n] at hR
            refine X_iinc (v := x6 + 1) (lv' := [(6, .int (x6 + 1)), (7, .null), (0, .ref (o)), (1, va_rf (y1)), (2, .int (x2)), (3, .int (x3)), (4, .int (x4)), (5, .int (x5))]) C dYa_tryTakers_71 rfl rfl (by decide) (by simp [rf_cat, cat_i, cat_r, cat_l, rf_n, rf_s] <;> decide) ?_
            refine X_goto (tgt := 15) C dYa_tryTakers_74 (by decide) ?_
            refine X_sub (lv' := [(0, .ref (o)), (1, va_rf ((y1))), (2, .int (x2)), (3, .int (x3)), (4, .int (x4)), (5, .int (x5)), (6, .int (x6 + 1))]) [2, 3, 4, 5, 6, 7, 0] rfl ?_
            exact (ih (y1) (x2) (x3) (x4) (x5) (x6 + 1) _ _ _ _ _ _ (by omega) (by omega) (by omega)).2.2 hR
          · subst e13
            rw [oel_s] at hR
            refine X_aload C dYa_tryTakers_44 rfl ?_
            have hq := o_bind hR
            clear hR
            obtain ⟨u14, hx18, hR⟩ := hq
            obtain ⟨fs15, he16, hv17⟩ := gi_e hx18
            refine X_get (k := 2) C oWa fwYa_175 he16 hv17 dYa_tryTakers_46 ?_
            refine X_iload C dYa_tryTakers_49 rfl ?_
            refine X_ineg C dYa_tryTakers_51 ?_
            refine X_icmp_ne (tgt := 71) C dYa_tryTakers_52 (by decide) (fun c19 => ?_) (fun c19 => ?_)
            · rw [if_neg c19] at hR
              refine X_iinc (v := x6 + 1) (lv' := [(6, .int (x6 + 1)), (7, .ref (a12)), (0, .ref (o)), (1, va_rf (y1)), (2, .int (x2)), (3, .int (x3)), (4, .int (x4)), (5, .int (x5))]) C dYa_tryTakers_71 rfl rfl (by decide) (by simp [rf_cat, cat_i, cat_r, cat_l, rf_n, rf_s] <;> decide) ?_
              refine X_goto (tgt := 15) C dYa_tryTakers_74 (by decide) ?_
              refine X_sub (lv' := [(0, .ref (o)), (1, va_rf ((y1))), (2, .int (x2)), (3, .int (x3)), (4, .int (x4)), (5, .int (x5)), (6, .int (x6 + 1))]) [2, 3, 4, 5, 6, 7, 0] rfl ?_
              exact (ih (y1) (x2) (x3) (x4) (x5) (x6 + 1) _ _ _ _ _ _ (by omega) (by omega) (by omega)).2.2 hR
            · rw [if_pos c19] at hR
              refine X_aload_n C dYa_tryTakers_55 rfl ?_
              refine X_aload_nq C dYa_tryTakers_56 rfl ?_
              refine X_iload_n C dYa_tryTakers_57 rfl ?_
              refine X_iload_n C dYa_tryTakers_58 rfl ?_
              refine X_iload C dYa_tryTakers_59 rfl ?_
              refine X_iload C dYa_tryTakers_61 rfl ?_
              have hq := o_if hR
              clear hR
              obtain ⟨k24, hR⟩ := hq
              obtain ⟨fs25, he26⟩ := kc_e k24
              have hq := o_bind hR
              clear hR
              obtain ⟨r20, hr20, hR⟩ := hq
              have hq := o_add hR
              clear hR
              obtain ⟨R23, e22, hR⟩ := hq
              subst e22
              dsimp only at hm hs hz ⊢
              refine X_callVa (As := [va_rf (y1), .int (x2), .int (x3), .int (x5), .int (x6)]) (rest := []) C (Ya_tryMove_c hr20) wYa_178 ⟨by decide, by decide⟩ ⟨by omega, by omega⟩ he26 oYa.2.1 rfl rfl (Nat.le_of_ble_eq_true rfl) dYa_tryTakers_63 ?_
              show X F G B _ 8 (r20.2.1) _ _ _ _ _ [.int (r20.1)]
              refine X_if_ne (tgt := 71) C dYa_tryTakers_66 (by decide) (fun c21 => ?_) (fun c21 => ?_)
              · rw [if_neg c21] at hR
                refine X_iinc (v := x6 + 1) (lv' := [(6, .int (x6 + 1)), (7, .ref (a12)), (0, .ref (o)), (1, va_rf (y1)), (2, .int (x2)), (3, .int (x3)), (4, .int (x4)), (5, .int (x5))]) C dYa_tryTakers_71 rfl rfl (by decide) (by simp [rf_cat, cat_i, cat_r, cat_l, rf_n, rf_s] <;> decide) ?_
                refine X_goto (tgt := 15) C dYa_tryTakers_74 (by decide) ?_
                refine X_sub (lv' := [(0, .ref (o)), (1, va_rf ((y1))), (2, .int (x2)), (3, .int (x3)), (4, .int (x4)), (5, .int (x5)), (6, .int (x6 + 1))]) [2, 3, 4, 5, 6, 7, 0] rfl ?_
                exact (ih (y1) (x2) (x3) (x4) (x5) (x6 + 1) _ _ _ _ _ _ (by omega) (by omega) (by omega)).2.2 hR
              · rw [if_pos c21] at hR
                refine X_iconst (v := 0) C dYa_tryTakers_69 rfl ?_
                have hR := Option.some.inj hR
                subst hR
                dsimp only at hm hs hz ⊢
                exact X_zret C hr rfl (by omega) (by omega) dYa_tryTakers_70 ⟨rfl, rfl, by omega⟩
theorem Ya_tryTakers_c {l : Launch} {G : xG} {B sz : Nat} {o : Nat} {n : Nat} {y1 : Option Nat} {x2 : Int32} {x3 : Int32} {x4 : Int32} {h : xH} {R : Int32 × xH × Nat × Nat} (hR : Ya_tryTakers_f n 0 o y1 x2 x3 x4 0 0 h sz = some R) : xCon l yYa_tryTakers cYa_tryTakers 8 (some .boolean) 5 124 R.2.2.1 R.2.2.2 G B [.ref (o), va_rf (y1), .int (x2), .int (x3), .int (x4)] h sz (kP (some (.int R.1)) R.2.1 (sz + R.2.2.1)) := xCon.of (by decide) (by simp [lg_sl, rf_cat, cat_i, cat_r, cat_l]) (fun F e C hr hnm => X_sub (lv' := [(0, .ref (o)), (1, va_rf (y1)), (2, .int (x2)), (3, .int (x3)), (4, .int (x4))]) [0, 1, 2, 3, 4] (by simp [lv_args, lv_pick, rf_cat, cat_i, cat_r, cat_l]) ((Ya_tryTakers_x C hr n y1 x2 x3 x4 0 0 h sz 0 0 R _ (Nat.le_of_eq (Nat.zero_add _)) (Nat.le_of_eq (Nat.zero_add _)) rfl).1 hR))
def Ya_lookAt_t0 (f : Nat → Option Nat → Int32 → Int32 → xH → Nat → Option (Int32 × xH × Nat × Nat)) (n : Nat) (o : Nat) (y1 : Option Nat) (x2 : Int32) (x3 : Int32) (h : xH) (z : Nat) : Option (Int32 × xH × Nat × Nat) := f 2 (y1) ((0 : Int32)) 0 h (z)
def Ya_lookAt_t2 (f : Nat → Option Nat → Int32 → Int32 → xH → Nat → Option (Int32 × xH × Nat × Nat)) (n : Nat) (o : Nat) (y1 : Option Nat) (x2 : Int32) (x3 : Int32) (h : xH) (z : Nat) : Option (Int32 × xH × Nat × Nat) := obd (gi h (o) 3 1) (fun u1 => (if u1 ≤ x2 then obd (gi h (o) 3 4) (fun u7 => obd (pf h (o) 3 4 (.int ((u7) + ((1 : Int32))))) (fun h12 => obd (gi h12 (o) 3 5) (fun u18 => obd y1 (fun a23 => obd (gi h12 (a23) 2 7) (fun u24 => obd (pf h12 (o) 3 5 (.int ((u18) + (u24)))) (fun h29 => obd (gi h29 (o) 3 6) (fun u35 => obd (gi h29 (a23) 2 8) (fun u40 => obd (pf h29 (o) 3 6 (.int ((u35) + (u40)))) (fun h45 => some ((1 : Int32), h45, 0, 0)))))))))) else f 12 (y1) (x2) ((0 : Int32)) h (z)))
def Ya_lookAt_t12 (f : Nat → Option Nat → Int32 → Int32 → xH → Nat → Option (Int32 × xH × Nat × Nat)) (n : Nat) (o : Nat) (y1 : Option Nat) (x2 : Int32) (x3 : Int32) (h : xH) (z : Nat) : Option (Int32 × xH × Nat × Nat) := (if (12 : Int32) ≤ x3 then f 2 (y1) (x2 + 1) 0 h (z) else (if kc h (o) 3 = true then obd (Ya_wayFrom_f n (o) (y1) (x2) (x3) h) (fun r52 => bnd (r52.1) (fun w53 => oel (w53) (f 12 (y1) (x2) (x3 + 1) r52.2 (z)) (fun a55 => obd (gi r52.2 (a55) 7 2) (fun u57 => (if 0 ≤ u57 then obd (gi r52.2 (a55) 7 2) (fun u63 => (if u63 = 0 then (if kc r52.2 (o) 3 = true then obd (Ya_tryMove_f n (o) (y1) (x2) (x3) (((-2) : Int32)) (((-2) : Int32)) r52.2 (z)) (fun r81 => oadd r81.2.2.1 r81.2.2.2 ((if r81.1 = 0 then some ((0 : Int32), r81.2.1, 0, 0) else f 12 (y1) (x2) (x3 + 1) r81.2.1 (z + r81.2.2.1)))) else none) else obd (gi r52.2 (a55) 7 2) (fun u69 => (if kc r52.2 (o) 3 = true then obd (Ya_tryTakers_f n 0 (o) (y1) (x2) (x3) (u69) 0 0 r52.2 (z)) (fun r74 => oadd r74.2.2.1 r74.2.2.2 ((if r74.1 = 0 then some ((0 : Int32), r74.2.1, 0, 0) else f 12 (y1) (x2) (x3 + 1) r74.2.1 (z + r74.2.2.1)))) else none)))) else f 12 (y1) (x2) (x3 + 1) r52.2 (z)))))) else none))
def Ya_lookAt_f : Nat → Nat → Nat → Option Nat → Int32 → Int32 → xH → Nat → Option (Int32 × xH × Nat × Nat)
  | 0 => fun _ _ _ _ _ _ _ => none
  | n + 1 => fun p o y1 x2 x3 h z => if p = 0 then Ya_lookAt_t0 (fun p y1 x2 x3 h z => Ya_lookAt_f n p o y1 x2 x3 h z) n o y1 x2 x3 h z else if p = 2 then Ya_lookAt_t2 (fun p y1 x2 x3 h z => Ya_lookAt_f n p o y1 x2 x3 h z) n o y1 x2 x3 h z else if p = 12 then Ya_lookAt_t12 (fun p y1 x2 x3 h z => Ya_lookAt_f n p o y1 x2 x3 h z) n o y1 x2 x3 h z else none
theorem Ya_lookAt_e0 (n : Nat) (o : Nat) (y1 : Option Nat) (x2 : Int32) (x3 : Int32) (h : xH) (z : Nat) : Ya_lookAt_f (n + 1) 0 o y1 x2 x3 h z = Ya_lookAt_t0 (fun p y1 x2 x3 h z => Ya_lookAt_f n p o y1 x2 x3 h z) n o y1 x2 x3 h z := by
  show (if 0 = 0 then Ya_lookAt_t0 (fun p y1 x2 x3 h z => Ya_lookAt_f n p o y1 x2 x3 h z) n o y1 x2 x3 h z else if 0 = 2 then Ya_lookAt_t2 (fun p y1 x2 x3 h z => Ya_lookAt_f n p o y1 x2 x3 h z) n o y1 x2 x3 h z else if 0 = 12 then Ya_lookAt_t12 (fun p y1 x2 x3 h z => Ya_lookAt_f n p o y1 x2 x3 h z) n o y1 x2 x3 h z else none) = _
  rw [if_pos rfl]
theorem Ya_lookAt_e2 (n : Nat) (o : Nat) (y1 : Option Nat) (x2 : Int32) (x3 : Int32) (h : xH) (z : Nat) : Ya_lookAt_f (n + 1) 2 o y1 x2 x3 h z = Ya_lookAt_t2 (fun p y1 x2 x3 h z => Ya_lookAt_f n p o y1 x2 x3 h z) n o y1 x2 x3 h z := by
  show (if 2 = 0 then Ya_lookAt_t0 (fun p y1 x2 x3 h z => Ya_lookAt_f n p o y1 x2 x3 h z) n o y1 x2 x3 h z else if 2 = 2 then Ya_lookAt_t2 (fun p y1 x2 x3 h z => Ya_lookAt_f n p o y1 x2 x3 h z) n o y1 x2 x3 h z else if 2 = 12 then Ya_lookAt_t12 (fun p y1 x2 x3 h z => Ya_lookAt_f n p o y1 x2 x3 h z) n o y1 x2 x3 h z else none) = _
  rw [if_neg (by decide), if_pos rfl]
theorem Ya_lookAt_e12 (n : Nat) (o : Nat) (y1 : Option Nat) (x2 : Int32) (x3 : Int32) (h : xH) (z : Nat) : Ya_lookAt_f (n + 1) 12 o y1 x2 x3 h z = Ya_lookAt_t12 (fun p y1 x2 x3 h z => Ya_lookAt_f n p o y1 x2 x3 h z) n o y1 x2 x3 h z := by
  show (if 12 = 0 then Ya_lookAt_t0 (fun p y1 x2 x3 h z => Ya_lookAt_f n p o y1 x2 x3 h z) n o y1 x2 x3 h z else if 12 = 2 then Ya_lookAt_t2 (fun p y1 x2 x3 h z => Ya_lookAt_f n p o y1 x2 x3 h z) n o y1 x2 x3 h z else if 12 = 12 then Ya_lookAt_t12 (fun p y1 x2 x3 h z => Ya_lookAt_f n p o y1 x2 x3 h z) n o y1 x2 x3 h z else none) = _
  rw [if_neg (by decide), if_neg (by decide), if_pos rfl]
set_option maxRecDepth 100000 in
set_option maxHeartbeats 8000000 in
theorem Ya_lookAt_x {F : xF} {G : xG} {B mc ms : Nat} {o : Nat} (C : xC F G B cYa_lookAt RYa 6 6 151 mc ms) (hr : (xFM F).sig.returnType = (some .boolean)) : ∀ (n : Nat) (y1 : Option Nat) (x2 : Int32) (x3 : Int32) (h : xH) (z cs ss : Nat) (R : Int32 × xH × Nat × Nat) (Zf : Nat), cs + R.2.2.1 ≤ mc → ss + R.2.2.2 ≤ ms → Zf = z + R.2.2.1 → ((Ya_lookAt_f n 0 o y1 x2 x3 h z = some R → X F G B (xZ F G B (kP (some (.int R.1)) R.2.1 Zf) mc ms) 6 h z cs ss 0 [(0, .ref (o)), (1, va_rf (y1))] []) ∧ (Ya_lookAt_f n 2 o y1 x2 x3 h z = some R → X F G B (xZ F G B (kP (some (.int R.1)) R.2.1 Zf) mc ms) 6 h z cs ss 2 [(0, .ref (o)), (1, va_rf (y1)), (2, .int (x2))] []) ∧ (Ya_lookAt_f n 12 o y1 x2 x3 h z = some R → X F G B (xZ F G B (kP (some (.int R.1)) R.2.1 Zf) mc ms) 6 h z cs ss 12 [(0, .ref (o)), (1, va_rf (y1)), (2, .int (x2)), (3, .int (x3))] [])) := by
  intro n
  induction n with
  | zero => exact fun _ _ _ _ _ _ _ _ _ _ _ _ => ⟨(fun hR => nomatch (show (none : Option _) = some _ from hR)), (fun hR => nomatch (show (none : Option _) = some _ from hR)), (fun hR => nomatch (show (none : Option _) = some _ from hR))⟩
  | succ n ih =>
    intro y1 x2 x3 h z cs ss R Zf hm hs hz
    refine ⟨fun hR => ?_, fun hR => ?_, fun hR => ?_⟩
    · rw [Ya_lookAt_e0] at hR
      unfold Ya_lookAt_t0 at hR
      refine X_iconst (v := 0) C dYa_lookAt_0 rfl ?_
      refine X_istore_n (lv' := [(2, .int ((0 : Int32))), (0, .ref (o)), (1, va_rf (y1))]) C dYa_lookAt_1 (by decide) (by simp [rf_cat, cat_i, cat_r, cat_l, rf_n, rf_s] <;> decide) ?_
      refine X_sub (lv' := [(0, .ref (o)), (1, va_rf ((y1))), (2, .int ((0 : Int32)))]) [1, 2, 0] rfl ?_
      exact (ih (y1) ((0 : Int32)) 0 _ _ _ _ _ _ (by omega) (by omega) (by omega)).2.1 hR
    · rw [Ya_lookAt_e2] at hR
      unfold Ya_lookAt_t2 at hR
      refine X_iload_n C dYa_lookAt_2 rfl ?_
      refine X_aload_n C dYa_lookAt_3 rfl ?_
      have hq := o_bind hR
      clear hR
      obtain ⟨u1, hx5, hR⟩ := hq
      obtain ⟨fs2, he3, hv4⟩ := gi_e hx5
      refine X_get (k := 1) C oYa fwYa_43 he3 hv4 dYa_lookAt_4 ?_
      refine X_icmp_ge (tgt := 114) C dYa_lookAt_7 (by decide) (fun c6 => ?_) (fun c6 => ?_)
      · rw [if_pos c6] at hR
        refine X_aload_n C dYa_lookAt_114 rfl ?_
        refine X_dup C dYa_lookAt_115 rfl ?_
        have hq := o_bind hR
        clear hR
        obtain ⟨u7, hx11, hR⟩ := hq
        obtain ⟨fs8, he9, hv10⟩ := gi_e hx11
        refine X_get (k := 4) C oYa fwYa_72 he9 hv10 dYa_lookAt_116 ?_
        refine X_iconst (v := 1) C dYa_lookAt_119 rfl ?_
        refine X_iadd C dYa_lookAt_120 ?_
        have hq := o_bind hR
        clear hR
        obtain ⟨h12, hh13, hR⟩ := hq
        obtain ⟨fs14, he15, hl16, e17⟩ := pf_e hh13
        refine X_put (k := 4) C oYa fwYa_72 rfl he15 rfl rfl hl16 dYa_lookAt_121 ?_
        rw [← e17]
        refine X_aload_n C dYa_lookAt_124 rfl ?_
        refine X_dup C dYa_lookAt_125 rfl ?_
        have hq := o_bind hR
        clear hR
        obtain ⟨u18, hx22, hR⟩ := hq
        obtain ⟨fs19, he20, hv21⟩ := gi_e hx22
        refine X_get (k := 5) C oYa fwYa_75 he20 hv21 dYa_lookAt_126 ?_
        refine X_aload_nq C dYa_lookAt_129 rfl ?_
        have hq := o_bind hR
        clear hR
        obtain ⟨a23, rfl, hR⟩ := hq
        have hq := o_bind hR
        clear hR
        obtain ⟨u24, hx28, hR⟩ := hq
        obtain ⟨fs25, he26, hv27⟩ := gi_e hx28
        refine X_get (k := 7) C oSt fwYa_186 he26 hv27 dYa_lookAt_130 ?_
        refine X_iadd C dYa_lookAt_133 ?_
        have hq := o_bind hR
        clear hR
        obtain ⟨h29, hh30, hR⟩ := hq
        obtain ⟨fs31, he32, hl33, e34⟩ := pf_e hh30
        refine X_put (k := 5) C oYa fwYa_75 rfl he32 rfl rfl hl33 dYa_lookAt_134 ?_
        rw [← e34]
        refine X_aload_n C dYa_lookAt_137 rfl ?_
        refine X_dup C dYa_lookAt_138 rfl ?_
        have hq := o_bind hR
        clear hR
        obtain ⟨u35, hx39, hR⟩ := hq
        obtain ⟨fs36, he37, hv38⟩ := gi_e hx39
        refine X_get (k := 6) C oYa fwYa_78 he37 hv38 dYa_lookAt_139 ?_
        refine X_aload_n C dYa_lookAt_142 rfl ?_
        have hq := o_bind hR
        clear hR
        obtain ⟨u40, hx44, hR⟩ := hq
        obtain ⟨fs41, he42, hv43⟩ := gi_e hx44
        refine X_get (k := 8) C oSt fwYa_187 he42 hv43 dYa_lookAt_143 ?_
        refine X_iadd C dYa_lookAt_146 ?_
        have hq := o_bind hR
        clear hR
        obtain ⟨h45, hh46, hR⟩ := hq
        obtain ⟨fs47, he48, hl49, e50⟩ := pf_e hh46
        refine X_put (k := 6) C oYa fwYa_78 rfl he48 rfl rfl hl49 dYa_lookAt_147 ?_
        rw [← e50]
        refine X_iconst (v := 1) C dYa_lookAt_150 rfl ?_
        have hR := Option.some.inj hR
        subst hR
        dsimp only at hm hs hz ⊢
        exact X_zret C hr rfl (by omega) (by omega) dYa_lookAt_151 ⟨rfl, rfl, by omega⟩
      · rw [if_neg c6] at hR
        refine X_iconst (v := 0) C dYa_lookAt_10 rfl ?_
        refine X_istore_n (lv' := [(3, .int ((0 : Int32))), (0, .ref (o)), (1, va_rf (y1)), (2, .int (x2))]) C dYa_lookAt_11 (by decide) (by simp [rf_cat, cat_i, cat_r, cat_l, rf_n, rf_s] <;> decide) ?_
        refine X_sub (lv' := [(0, .ref (o)), (1, va_rf ((y1))), (2, .int (x2)), (3, .int ((0 : Int32)))]) [1, 2, 3, 0] rfl ?_
        exact (ih (y1) (x2) ((0 : Int32)) _ _ _ _ _ _ (by omega) (by omega) (by omega)).2.2 hR
    · rw [Ya_lookAt_e12] at hR
      unfold Ya_lookAt_t12 at hR
      refine X_iload_n C dYa_lookAt_12 rfl ?_
      refine X_bipush (v := 12) C dYa_lookAt_13 (by decide) ?_
      refine X_icmp_ge (tgt := 108) C dYa_lookAt_15 (by decide) (fun c51 => ?_) (fun c51 => ?_)
      · rw [if_pos c51] at hR
        refine X_iinc (v := x2 + 1) (lv' := [(2, .int (x2 + 1)), (0, .ref (o)), (1, va_rf (y1)), (3, .int (x3))]) C dYa_lookAt_108 rfl rfl (by decide) (by simp [rf_cat, cat_i, cat_r, cat_l, rf_n, rf_s] <;> decide) ?_
        refine X_goto (tgt := 2) C dYa_lookAt_111 (by decide) ?_
        refine X_sub (lv' := [(0, .ref (o)), (1, va_rf ((y1))), (2, .int (x2 + 1))]) [1, 2, 0] rfl ?_
        exact (ih (y1) (x2 + 1) 0 _ _ _ _ _ _ (by omega) (by omega) (by omega)).2.1 hR
      · rw [if_neg c51] at hR
        refine X_aload_n C dYa_lookAt_18 rfl ?_
        refine X_aload_nq C dYa_lookAt_19 rfl ?_
        refine X_iload_n C dYa_lookAt_20 rfl ?_
        refine X_iload_n C dYa_lookAt_21 rfl ?_
        have hq := o_if hR
        clear hR
        obtain ⟨k88, hR⟩ := hq
        obtain ⟨fs89, he90⟩ := kc_e k88
        have hq := o_bind hR
        clear hR
        obtain ⟨r52, hr52, hR⟩ := hq
        refine X_callVk (As := [va_rf (y1), .int (x2), .int (x3)]) (rest := []) C (Ya_wayFrom_c hr52) wYa_171 ⟨by decide, by decide⟩ ⟨by omega, by omega⟩ he90 oYa.2.1 rfl rfl (Nat.le_of_ble_eq_true rfl) dYa_lookAt_22 ?_
        show X F G B _ 6 (r52.2) _ _ _ _ _ [va_rf (r52.1)]
        have hq := b_bnd hR
        clear hR
        obtain ⟨w53, e54, hR⟩ := hq
        rw [← e54]
        refine X_astoreq (lv' := [(4, va_rf (w53)), (0, .ref (o)), (1, va_rf (y1)), (2, .int (x2)), (3, .int (x3))]) C dYa_lookAt_25 (by decide) (by simp [rf_cat, cat_i, cat_r, cat_l, rf_n, rf_s] <;> decide) ?_
        refine X_aloadq C dYa_lookAt_27 rfl ?_
        refine X_ifnullq (tgt := 102) C dYa_lookAt_29 (by decide) (fun e56 => ?_) (fun a55 e56 => ?_)
        · subst e56
          rw [oel_n] at hR
          refine X_iinc (v := x3 + 1) (lv' := [(3, .int (x3 + 1)), (4, .null), (0, .ref (o)), (1, va_rf (y1)), (2, .int (x2))]) C dYa_lookAt_102 rfl rfl (by decide) (by simp [rf_cat, cat_i, cat_r, cat_l, rf_n, rf_s] <;> decide) ?_
          refine X_goto (tgt := 12) C dYa_lookAt_105 (by decide) ?_
          refine X_sub (lv' := [(0, .ref (o)), (1, va_rf ((y1))), (2, .int (x2)), (3, .int (x3 + 1))]) [2, 3, 4, 0] rfl ?_
          exact (ih (y1) (x2) (x3 + 1) _ _ _ _ _ _ (by omega) (by omega) (by omega)).2.2 hR
        · subst e56
          rw [oel_s] at hR
          refine X_aload C dYa_lookAt_32 rfl ?_
          have hq := o_bind hR
          clear hR
          obtain ⟨u57, hx61, hR⟩ := hq
          obtain ⟨fs58, he59, hv60⟩ := gi_e hx61
          refine X_get (k := 2) C oWa fwYa_175 he59 hv60 dYa_lookAt_34 ?_
          refine X_if_ge (tgt := 43) C dYa_lookAt_37 (by decide) (fun c62 => ?_) (fun c62 => ?_)
          · rw [if_pos c62] at hR
            refine X_aload C dYa_lookAt_43 rfl ?_
            have hq := o_bind hR
            clear hR
            obtain ⟨u63, hx67, hR⟩ := hq
            obtain ⟨fs64, he65, hv66⟩ := gi_e hx67
            refine X_get (k := 2) C oWa fwYa_175 he65 hv66 dYa_lookAt_45 ?_
            refine X_if_ne (tgt := 73) C dYa_lookAt_48 (by decide) (fun c68 => ?_) (fun c68 => ?_)
            · rw [if_neg c68] at hR
              refine X_aload_n C dYa_lookAt_73 rfl ?_
              refine X_aload_nq C dYa_lookAt_74 rfl ?_
              refine X_iload_n C dYa_lookAt_75 rfl ?_
              refine X_iload_n C dYa_lookAt_76 rfl ?_
              refine X_aload C dYa_lookAt_77 rfl ?_
              have hq := o_bind hR
              clear hR
              obtain ⟨u69, hx73, hR⟩ := hq
              obtain ⟨fs70, he71, hv72⟩ := gi_e hx73
              refine X_get (k := 2) C oWa fwYa_175 he71 hv72 dYa_lookAt_79 ?_
              have hq := o_if hR
              clear hR
              obtain ⟨k78, hR⟩ := hq
              obtain ⟨fs79, he80⟩ := kc_e k78
              have hq := o_bind hR
              clear hR
              obtain ⟨r74, hr74, hR⟩ := hq
              have hq := o_add hR
              clear hR
              obtain ⟨R77, e76, hR⟩ := hq
              subst e76
              dsimp only at hm hs hz ⊢
              refine X_callVa (As := [va_rf (y1), .int (x2), .int (x3), .int (u69)]) (rest := []) C (Ya_tryTakers_c hr74) wYa_182 ⟨by decide, by decide⟩ ⟨by omega, by omega⟩ he80 oYa.2.1 rfl rfl (Nat.le_of_ble_eq_true rfl) dYa_lookAt_82 ?_
              show X F G B _ 6 (r74.2.1) _ _ _ _ _ [.int (r74.1)]
              refine X_if_ne (tgt := 92) C dYa_lookAt_85 (by decide) (fun c75 => ?_) (fun c75 => ?_)
              · rw [if_neg c75] at hR
                refine X_iconst (v := 0) C dYa_lookAt_92 rfl ?_
                refine X_istore (lv' := [(5, .int ((0 : Int32))), (4, .ref (a55)), (0, .ref (o)), (1, va_rf (y1)), (2, .int (x2)), (3, .int (x3))]) C dYa_lookAt_93 (by decide) (by simp [rf_cat, cat_i, cat_r, cat_l, rf_n, rf_s] <;> decide) ?_
                refine X_iload C dYa_lookAt_95 rfl ?_
                refine X_if_eq (tgt := 102) C dYa_lookAt_97 (by decide) (fun _ => ?_) (fun c => absurd c (by decide))
                refine X_iinc (v := x3 + 1) (lv' := [(3, .int (x3 + 1)), (5, .int ((0 : Int32))), (4, .ref (a55)), (0, .ref (o)), (1, va_rf (y1)), (2, .int (x2))]) C dYa_lookAt_102 rfl rfl (by decide) (by simp [rf_cat, cat_i, cat_r, cat_l, rf_n, rf_s] <;> decide) ?_
                refine X_goto (tgt := 12) C dYa_lookAt_105 (by decide) ?_
                refine X_sub (lv' := [(0, .ref (o)), (1, va_rf ((y1))), (2, .int (x2)), (3, .int (x3 + 1))]) [3, 4, 5, 0] rfl ?_
                exact (ih (y1) (x2) (x3 + 1) _ _ _ _ _ _ (by omega) (by omega) (by omega)).2.2 hR
              · rw [if_pos c75] at hR
                refine X_iconst (v := 1) C dYa_lookAt_88 rfl ?_
                refine X_goto (tgt := 93) C dYa_lookAt_89 (by decide) ?_
                refine X_istore (lv' := [(5, .int ((1 : Int32))), (4, .ref (a55)), (0, .ref (o)), (1, va_rf (y1)), (2, .int (x2)), (3, .int (x3))]) C dYa_lookAt_93 (by decide) (by simp [rf_cat, cat_i, cat_r, cat_l, rf_n, rf_s] <;> decide) ?_
                refine X_iload C dYa_lookAt_95 rfl ?_
                refine X_if_eq (tgt := 102) C dYa_lookAt_97 (by decide) (fun c => absurd c (by decide)) (fun _ => ?_)
                refine X_iconst (v := 0) C dYa_lookAt_100 rfl ?_
                have hR := Option.some.inj hR
                subst hR
                dsimp only at hm hs hz ⊢
                exact X_zret C hr rfl (by omega) (by omega) dYa_lookAt_101 ⟨rfl, rfl, by omega⟩
            · rw [if_pos c68] at hR
              refine X_aload_n C dYa_lookAt_51 rfl ?_
              refine X_aload_nq C dYa_lookAt_52 rfl ?_
              refine X_iload_n C dYa_lookAt_53 rfl ?_
              refine X_iload_n C dYa_lookAt_54 rfl ?_
              refine X_bipush (v := (-2)) C dYa_lookAt_55 (by decide) ?_
              refine X_bipush (v := (-2)) C dYa_lookAt_57 (by decide) ?_
              have hq := o_if hR
              clear hR
              obtain ⟨k85, hR⟩ := hq
              obtain ⟨fs86, he87⟩ := kc_e k85
              have hq := o_bind hR
              clear hR
              obtain ⟨r81, hr81, hR⟩ := hq
              have hq := o_add hR
              clear hR
              obtain ⟨R84, e83, hR⟩ := hq
              subst e83
              dsimp only at hm hs hz ⊢
              refine X_callVa (As := [va_rf (y1), .int (x2), .int (x3), .int (((-2) : Int32)), .int (((-2) : Int32))]) (rest := []) C (Ya_tryMove_c hr81) wYa_178 ⟨by decide, by decide⟩ ⟨by omega, by omega⟩ he87 oYa.2.1 rfl rfl (Nat.le_of_ble_eq_true rfl) dYa_lookAt_59 ?_
              show X F G B _ 6 (r81.2.1) _ _ _ _ _ [.int (r81.1)]
              refine X_if_ne (tgt := 69) C dYa_lookAt_62 (by decide) (fun c82 => ?_) (fun c82 => ?_)
              · rw [if_neg c82] at hR
                refine X_iconst (v := 0) C dYa_lookAt_69 rfl ?_
                refine X_goto (tgt := 93) C dYa_lookAt_70 (by decide) ?_
                refine X_istore (lv' := [(5, .int ((0 : Int32))), (4, .ref (a55)), (0, .ref (o)), (1, va_rf (y1)), (2, .int (x2)), (3, .int (x3))]) C dYa_lookAt_93 (by decide) (by simp [rf_cat, cat_i, cat_r, cat_l, rf_n, rf_s] <;> decide) ?_
                refine X_iload C dYa_lookAt_95 rfl ?_
                refine X_if_eq (tgt := 102) C dYa_lookAt_97 (by decide) (fun _ => ?_) (fun c => absurd c (by decide))
                refine X_iinc (v := x3 + 1) (lv' := [(3, .int (x3 + 1)), (5, .int ((0 : Int32))), (4, .ref (a55)), (0, .ref (o)), (1, va_rf (y1)), (2, .int (x2))]) C dYa_lookAt_102 rfl rfl (by decide) (by simp [rf_cat, cat_i, cat_r, cat_l, rf_n, rf_s] <;> decide) ?_
                refine X_goto (tgt := 12) C dYa_lookAt_105 (by decide) ?_
                refine X_sub (lv' := [(0, .ref (o)), (1, va_rf ((y1))), (2, .int (x2)), (3, .int (x3 + 1))]) [3, 4, 5, 0] rfl ?_
                exact (ih (y1) (x2) (x3 + 1) _ _ _ _ _ _ (by omega) (by omega) (by omega)).2.2 hR
              · rw [if_pos c82] at hR
                refine X_iconst (v := 1) C dYa_lookAt_65 rfl ?_
                refine X_goto (tgt := 93) C dYa_lookAt_66 (by decide) ?_
                refine X_istore (lv' := [(5, .int ((1 : Int32))), (4, .ref (a55)), (0, .ref (o)), (1, va_rf (y1)), (2, .int (x2)), (3, .int (x3))]) C dYa_lookAt_93 (by decide) (by simp [rf_cat, cat_i, cat_r, cat_l, rf_n, rf_s] <;> decide) ?_
                refine X_iload C dYa_lookAt_95 rfl ?_
                refine X_if_eq (tgt := 102) C dYa_lookAt_97 (by decide) (fun c => absurd c (by decide)) (fun _ => ?_)
                refine X_iconst (v := 0) C dYa_lookAt_100 rfl ?_
                have hR := Option.some.inj hR
                subst hR
                dsimp only at hm hs hz ⊢
                exact X_zret C hr rfl (by omega) (by omega) dYa_lookAt_101 ⟨rfl, rfl, by omega⟩
          · rw [if_neg c62] at hR
            refine X_goto (tgt := 102) C dYa_lookAt_40 (by decide) ?_
            refine X_iinc (v := x3 + 1) (lv' := [(3, .int (x3 + 1)), (4, .ref (a55)), (0, .ref (o)), (1, va_rf (y1)), (2, .int (x2))]) C dYa_lookAt_102 rfl rfl (by decide) (by simp [rf_cat, cat_i, cat_r, cat_l, rf_n, rf_s] <;> decide) ?_
            refine X_goto (tgt := 12) C dYa_lookAt_105 (by decide) ?_
            refine X_sub (lv' := [(0, .ref (o)), (1, va_rf ((y1))), (2, .int (x2)), (3, .int (x3 + 1))]) [2, 3, 4, 0] rfl ?_
            exact (ih (y1) (x2) (x3 + 1) _ _ _ _ _ _ (by omega) (by omega) (by omega)).2.2 hR
theorem Ya_lookAt_c {l : Launch} {G : xG} {B sz : Nat} {o : Nat} {n : Nat} {y1 : Option Nat} {h : xH} {R : Int32 × xH × Nat × Nat} (hR : Ya_lookAt_f n 0 o y1 0 0 h sz = some R) : xCon l yYa_lookAt cYa_lookAt 6 (some .boolean) 6 151 R.2.2.1 R.2.2.2 G B [.ref (o), va_rf (y1)] h sz (kP (some (.int R.1)) R.2.1 (sz + R.2.2.1)) := xCon.of (by decide) (by simp [lg_sl, rf_cat, cat_i, cat_r, cat_l]) (fun F e C hr hnm => X_sub (lv' := [(0, .ref (o)), (1, va_rf (y1))]) [0, 1] (by simp [lv_args, lv_pick, rf_cat, cat_i, cat_r, cat_l]) ((Ya_lookAt_x C hr n y1 0 0 h sz 0 0 R _ (Nat.le_of_eq (Nat.zero_add _)) (Nat.le_of_eq (Nat.zero_add _)) rfl).1 hR))
def Zo_becomeAllTimes_t0 (f : Nat → Int32 → xH → Option (Int32 × xH)) (n : Nat) (o : Nat) (x1 : Int32) (h : xH) : Option (Int32 × xH) := obd (gq h (o) 1 1) (fun w1 => obd (J7_fill_53178_f n 0 (w1) ((1000000 : Int32)) 0 0 h) (fun r6 => f 11 ((0 : Int32)) r6.2))
def Zo_becomeAllTimes_t11 (f : Nat → Int32 → xH → Option (Int32 × xH)) (n : Nat) (o : Nat) (x1 : Int32) (h : xH) : Option (Int32 × xH) := obd (gi h (o) 1 0) (fun u7 => (if u7 ≤ x1 then obd (pf h (o) 1 2 (.int ((0 : Int32)))) (fun h13 => some (0, h13)) else obd (gq h (o) 1 1) (fun w19 => obd w19 (fun a24 => obd (pa h (a24) 0 (x1) ((1 : Int32))) (fun h25 => obd (gq h25 (o) 1 1) (fun w32 => obd (gi h25 (o) 1 0) (fun u37 => obd w32 (fun a42 => obd (pa h25 (a42) 0 (((x1) * (u37)) + (x1)) ((1 : Int32))) (fun h43 => f 11 (x1 + 1) h43)))))))))
def Zo_becomeAllTimes_f : Nat → Nat → Nat → Int32 → xH → Option (Int32 × xH)
  | 0 => fun _ _ _ _ => none
  | n + 1 => fun p o x1 h => if p = 0 then Zo_becomeAllTimes_t0 (fun p x1 h => Zo_becomeAllTimes_f n p o x1 h) n o x1 h else if p = 11 then Zo_becomeAllTimes_t11 (fun p x1 h => Zo_becomeAllTimes_f n p o x1 h) n o x1 h else none
theorem Zo_becomeAllTimes_e0 (n : Nat) (o : Nat) (x1 : Int32) (h : xH) : Zo_becomeAllTimes_f (n + 1) 0 o x1 h = Zo_becomeAllTimes_t0 (fun p x1 h => Zo_becomeAllTimes_f n p o x1 h) n o x1 h := by
  show (if 0 = 0 then Zo_becomeAllTimes_t0 (fun p x1 h => Zo_becomeAllTimes_f n p o x1 h) n o x1 h else if 0 = 11 then Zo_becomeAllTimes_t11 (fun p x1 h => Zo_becomeAllTimes_f n p o x1 h) n o x1 h else none) = _
  rw [if_pos rfl]
theorem Zo_becomeAllTimes_e11 (n : Nat) (o : Nat) (x1 : Int32) (h : xH) : Zo_becomeAllTimes_f (n + 1) 11 o x1 h = Zo_becomeAllTimes_t11 (fun p x1 h => Zo_becomeAllTimes_f n p o x1 h) n o x1 h := by
  show (if 11 = 0 then Zo_becomeAllTimes_t0 (fun p x1 h => Zo_becomeAllTimes_f n p o x1 h) n o x1 h else if 11 = 11 then Zo_becomeAllTimes_t11 (fun p x1 h => Zo_becomeAllTimes_f n p o x1 h) n o x1 h else none) = _
  rw [if_neg (by decide), if_pos rfl]
set_option maxRecDepth 100000 in
set_option maxHeartbeats 8000000 in
theorem Zo_becomeAllTimes_x {F : xF} {G : xG} {B sz : Nat} {o : Nat} (C : xC F G B cZo_becomeAllTimes RZo 2 1 23 0 0) (hr : (xFM F).sig.returnType = none) : ∀ (n : Nat) (x1 : Int32) (h : xH) (R : Int32 × xH), (Zo_becomeAllTimes_f n 0 o x1 h = some R → X F G B (xZ F G B (kP none R.2 sz) 0 0) 2 h sz 0 0 0 [(0, .ref (o))] []) ∧ (Zo_becomeAllTimes_f n 11 o x1 h = some R → X F G B (xZ F G B (kP none R.2 sz) 0 0) 2 h sz 0 0 11 [(0, .ref (o)), (1, .int (x1))] []) := by
  intro n
  induction n with
  | zero => exact fun _ _ _ => ⟨(fun hR => nomatch (show (none : Option _) = some _ from hR)), (fun hR => nomatch (show (none : Option _) = some _ from hR))⟩
  | succ n ih =>
    intro x1 h R
    refine ⟨fun hR => ?_, fun hR => ?_⟩
    · rw [Zo_becomeAllTimes_e0] at hR
      unfold Zo_becomeAllTimes_t0 at hR
      refine X_aload_n C dZo_becomeAllTimes_0 rfl ?_
      have hq := o_bind hR
      clear hR
      obtain ⟨w1, hx5, hR⟩ := hq
      obtain ⟨fs2, he3, hv4⟩ := gq_e hx5
      refine X_get (k := 1) C oZo fwZo_15 he3 hv4 dZo_becomeAllTimes_1 ?_
      refine X_ldc (v := 1000000) C kZo_25 dZo_becomeAllTimes_4 ?_
      have hq := o_bind hR
      clear hR
      obtain ⟨r6, hr6, hR⟩ := hq
      refine X_callSk (As := [va_rf (w1), .int ((1000000 : Int32))]) (rest := []) C (J7_fill_53178_c hr6) wZo_19 ⟨by decide, by decide⟩ ⟨Nat.le_refl _, Nat.le_refl _⟩ rfl rfl (Nat.le_of_ble_eq_true rfl) dZo_becomeAllTimes_6 ?_
      show X F G B _ 2 (r6.2) _ _ _ _ _ []
      refine X_iconst (v := 0) C dZo_becomeAllTimes_9 rfl ?_
      refine X_istore_n (lv' := [(1, .int ((0 : Int32))), (0, .ref (o))]) C dZo_becomeAllTimes_10 (by decide) rfl ?_
      refine X_sub (lv' := [(0, .ref (o)), (1, .int ((0 : Int32)))]) [1, 0] rfl ?_
      exact (ih ((0 : Int32)) _ _).2 hR
    · rw [Zo_becomeAllTimes_e11] at hR
      unfold Zo_becomeAllTimes_t11 at hR
      refine X_iload_n C dZo_becomeAllTimes_11 rfl ?_
      refine X_aload_n C dZo_becomeAllTimes_12 rfl ?_
      have hq := o_bind hR
      clear hR
      obtain ⟨u7, hx11, hR⟩ := hq
      obtain ⟨fs8, he9, hv10⟩ := gi_e hx11
      refine X_get (k := 0) C oZo fwZo_9 he9 hv10 dZo_becomeAllTimes_13 ?_
      refine X_icmp_ge (tgt := 46) C dZo_becomeAllTimes_16 (by decide) (fun c12 => ?_) (fun c12 => ?_)
      · rw [if_pos c12] at hR
        refine X_aload_n C dZo_becomeAllTimes_46 rfl ?_
        refine X_iconst (v := 0) C dZo_becomeAllTimes_47 rfl ?_
        have hq := o_bind hR
        clear hR
        obtain ⟨h13, hh14, hR⟩ := hq
        obtain ⟨fs15, he16, hl17, e18⟩ := pf_e hh14
        refine X_put (k := 2) C oZo fwZo_26 rfl he16 rfl rfl hl17 dZo_becomeAllTimes_48 ?_
        rw [← e18]
        rw [← Option.some.inj hR]
        exact X_vret C hr (Nat.le_refl _) (Nat.le_refl _) dZo_becomeAllTimes_51 ⟨rfl, rfl, rfl⟩
      · rw [if_neg c12] at hR
        refine X_aload_n C dZo_becomeAllTimes_19 rfl ?_
        have hq := o_bind hR
        clear hR
        obtain ⟨w19, hx23, hR⟩ := hq
        obtain ⟨fs20, he21, hv22⟩ := gq_e hx23
        refine X_get (k := 1) C oZo fwZo_15 he21 hv22 dZo_becomeAllTimes_20 ?_
        refine X_iload_n C dZo_becomeAllTimes_23 rfl ?_
        refine X_iconst (v := 1) C dZo_becomeAllTimes_24 rfl ?_
        have hq := o_bind hR
        clear hR
        obtain ⟨a24, rfl, hR⟩ := hq
        have hq := o_bind hR
        clear hR
        obtain ⟨h25, hh26, hR⟩ := hq
        obtain ⟨n27, f28, he29, hi30, e31⟩ := pa_e hh26
        refine X_iast C rfl he29 hi30 dZo_becomeAllTimes_25 ?_
        rw [← e31]
        refine X_aload_n C dZo_becomeAllTimes_26 rfl ?_
        have hq := o_bind hR
        clear hR
        obtain ⟨w32, hx36, hR⟩ := hq
        obtain ⟨fs33, he34, hv35⟩ := gq_e hx36
        refine X_get (k := 1) C oZo fwZo_15 he34 hv35 dZo_becomeAllTimes_27 ?_
        refine X_iload_n C dZo_becomeAllTimes_30 rfl ?_
        refine X_aload_n C dZo_becomeAllTimes_31 rfl ?_
        have hq := o_bind hR
        clear hR
        obtain ⟨u37, hx41, hR⟩ := hq
        obtain ⟨fs38, he39, hv40⟩ := gi_e hx41
        refine X_get (k := 0) C oZo fwZo_9 he39 hv40 dZo_becomeAllTimes_32 ?_
        refine X_imul C dZo_becomeAllTimes_35 ?_
        refine X_iload_n C dZo_becomeAllTimes_36 rfl ?_
        refine X_iadd C dZo_becomeAllTimes_37 ?_
        refine X_iconst (v := 1) C dZo_becomeAllTimes_38 rfl ?_
        have hq := o_bind hR
        clear hR
        obtain ⟨a42, rfl, hR⟩ := hq
        have hq := o_bind hR
        clear hR
        obtain ⟨h43, hh44, hR⟩ := hq
        obtain ⟨n45, f46, he47, hi48, e49⟩ := pa_e hh44
        refine X_iast C rfl he47 hi48 dZo_becomeAllTimes_39 ?_
        rw [← e49]
        refine X_iinc (v := x1 + 1) (lv' := [(1, .int (x1 + 1)), (0, .ref (o))]) C dZo_becomeAllTimes_40 rfl rfl (by decide) rfl ?_
        refine X_goto (tgt := 11) C dZo_becomeAllTimes_43 (by decide) ?_
        refine X_sub (lv' := [(0, .ref (o)), (1, .int (x1 + 1))]) [1, 0] rfl ?_
        exact (ih (x1 + 1) _ _).2 hR
theorem Zo_becomeAllTimes_c {l : Launch} {G : xG} {B sz : Nat} {o : Nat} {n : Nat} {h : xH} {R : Int32 × xH} (hR : Zo_becomeAllTimes_f n 0 o 0 h = some R) : xCon l yZo_becomeAllTimes cZo_becomeAllTimes 2 none 1 23 0 0 G B [.ref (o)] h sz (kP none R.2 sz) := xCon.of (by decide) (by exact Nat.le_of_ble_eq_true rfl) (fun F e C hr hnm => X_sub (lv' := [(0, .ref (o))]) [0] rfl ((Zo_becomeAllTimes_x C hr n 0 h R).1 hR))
def Zo_cutBy_t0 (f : Nat → Option Nat → Int32 → Int32 → xH → Option (Int32 × xH)) (n : Nat) (o : Nat) (y1 : Option Nat) (x2 : Int32) (x3 : Int32) (h : xH) : Option (Int32 × xH) := f 2 (y1) ((0 : Int32)) 0 h
def Zo_cutBy_t2 (f : Nat → Option Nat → Int32 → Int32 → xH → Option (Int32 × xH)) (n : Nat) (o : Nat) (y1 : Option Nat) (x2 : Int32) (x3 : Int32) (h : xH) : Option (Int32 × xH) := obd (gi h (o) 1 0) (fun u1 => (if u1 ≤ x2 then some (0, h) else f 12 (y1) (x2) ((0 : Int32)) h))
def Zo_cutBy_t12 (f : Nat → Option Nat → Int32 → Int32 → xH → Option (Int32 × xH)) (n : Nat) (o : Nat) (y1 : Option Nat) (x2 : Int32) (x3 : Int32) (h : xH) : Option (Int32 × xH) := obd (gi h (o) 1 0) (fun u7 => (if u7 ≤ x3 then f 2 (y1) (x2 + 1) 0 h else obd y1 (fun a13 => obd (gi h (a13) 1 0) (fun u14 => obd (gi h (o) 1 0) (fun u19 => (if u14 = u19 then (if kc h (a13) 1 = true then obd (Zo_at_f n (a13) (x2) (x3) h) (fun r25 => (if kc r25.2 (o) 1 = true then obd (Zo_narrow_f n (o) (x2) (x3) (r25.1) r25.2) (fun r26 => f 12 (some (a13)) (x2) (x3 + 1) r26.2) else none)) else none) else f 2 (some (a13)) (x2 + 1) 0 h))))))
def Zo_cutBy_f : Nat → Nat → Nat → Option Nat → Int32 → Int32 → xH → Option (Int32 × xH)
  | 0 => fun _ _ _ _ _ _ => none
  | n + 1 => fun p o y1 x2 x3 h => if p = 0 then Zo_cutBy_t0 (fun p y1 x2 x3 h => Zo_cutBy_f n p o y1 x2 x3 h) n o y1 x2 x3 h else if p = 2 then Zo_cutBy_t2 (fun p y1 x2 x3 h => Zo_cutBy_f n p o y1 x2 x3 h) n o y1 x2 x3 h else if p = 12 then Zo_cutBy_t12 (fun p y1 x2 x3 h => Zo_cutBy_f n p o y1 x2 x3 h) n o y1 x2 x3 h else none
theorem Zo_cutBy_e0 (n : Nat) (o : Nat) (y1 : Option Nat) (x2 : Int32) (x3 : Int32) (h : xH) : Zo_cutBy_f (n + 1) 0 o y1 x2 x3 h = Zo_cutBy_t0 (fun p y1 x2 x3 h => Zo_cutBy_f n p o y1 x2 x3 h) n o y1 x2 x3 h := by
  show (if 0 = 0 then Zo_cutBy_t0 (fun p y1 x2 x3 h => Zo_cutBy_f n p o y1 x2 x3 h) n o y1 x2 x3 h else if 0 = 2 then Zo_cutBy_t2 (fun p y1 x2 x3 h => Zo_cutBy_f n p o y1 x2 x3 h) n o y1 x2 x3 h else if 0 = 12 then Zo_cutBy_t12 (fun p y1 x2 x3 h => Zo_cutBy_f n p o y1 x2 x3 h) n o y1 x2 x3 h else none) = _
  rw [if_pos rfl]
theorem Zo_cutBy_e2 (n : Nat) (o : Nat) (y1 : Option Nat) (x2 : Int32) (x3 : Int32) (h : xH) : Zo_cutBy_f (n + 1) 2 o y1 x2 x3 h = Zo_cutBy_t2 (fun p y1 x2 x3 h => Zo_cutBy_f n p o y1 x2 x3 h) n o y1 x2 x3 h := by
  show (if 2 = 0 then Zo_cutBy_t0 (fun p y1 x2 x3 h => Zo_cutBy_f n p o y1 x2 x3 h) n o y1 x2 x3 h else if 2 = 2 then Zo_cutBy_t2 (fun p y1 x2 x3 h => Zo_cutBy_f n p o y1 x2 x3 h) n o y1 x2 x3 h else if 2 = 12 then Zo_cutBy_t12 (fun p y1 x2 x3 h => Zo_cutBy_f n p o y1 x2 x3 h) n o y1 x2 x3 h else none) = _
  rw [if_neg (by decide), if_pos rfl]
theorem Zo_cutBy_e12 (n : Nat) (o : Nat) (y1 : Option Nat) (x2 : Int32) (x3 : Int32) (h : xH) : Zo_cutBy_f (n + 1) 12 o y1 x2 x3 h = Zo_cutBy_t12 (fun p y1 x2 x3 h => Zo_cutBy_f n p o y1 x2 x3 h) n o y1 x2 x3 h := by
  show (if 12 = 0 then Zo_cutBy_t0 (fun p y1 x2 x3 h => Zo_cutBy_f n p o y1 x2 x3 h) n o y1 x2 x3 h else if 12 = 2 then Zo_cutBy_t2 (fun p y1 x2 x3 h => Zo_cutBy_f n p o y1 x2 x3 h) n o y1 x2 x3 h else if 12 = 12 then Zo_cutBy_t12 (fun p y1 x2 x3 h => Zo_cutBy_f n p o y1 x2 x3 h) n o y1 x2 x3 h else none) = _
  rw [if_neg (by decide), if_neg (by decide), if_pos rfl]
set_option maxRecDepth 100000 in
set_option maxHeartbeats 8000000 in
theorem Zo_cutBy_x {F : xF} {G : xG} {B sz : Nat} {o : Nat} (C : xC F G B cZo_cutBy RZo 4 2 45 0 0) (hr : (xFM F).sig.returnType = none) : ∀ (n : Nat) (y1 : Option Nat) (x2 : Int32) (x3 : Int32) (h : xH) (R : Int32 × xH), (Zo_cutBy_f n 0 o y1 x2 x3 h = some R → X F G B (xZ F G B (kP none R.2 sz) 0 0) 4 h sz 0 0 0 [(0, .ref (o)), (1, va_rf (y1))] []) ∧ (Zo_cutBy_f n 2 o y1 x2 x3 h = some R → X F G B (xZ F G B (kP none R.2 sz) 0 0) 4 h sz 0 0 2 [(0, .ref (o)), (1, va_rf (y1)), (2, .int (x2))] []) ∧ (Zo_cutBy_f n 12 o y1 x2 x3 h = some R → X F G B (xZ F G B (kP none R.2 sz) 0 0) 4 h sz 0 0 12 [(0, .ref (o)), (1, va_rf (y1)), (2, .int (x2)), (3, .int (x3))] []) := by
  intro n
  induction n with
  | zero => exact fun _ _ _ _ _ => ⟨(fun hR => nomatch (show (none : Option _) = some _ from hR)), (fun hR => nomatch (show (none : Option _) = some _ from hR)), (fun hR => nomatch (show (none : Option _) = some _ from hR))⟩
  | succ n ih =>
    intro y1 x2 x3 h R
    refine ⟨fun hR => ?_, fun hR => ?_, fun hR => ?_⟩
    · rw [Zo_cutBy_e0] at hR
      unfold Zo_cutBy_t0 at hR
      refine X_iconst (v := 0) C dZo_cutBy_0 rfl ?_
      refine X_istore_n (lv' := [(2, .int ((0 : Int32))), (0, .ref (o)), (1, va_rf (y1))]) C dZo_cutBy_1 (by decide) (by simp [rf_cat, cat_i, cat_r, cat_l, rf_n, rf_s] <;> decide) ?_
      refine X_sub (lv' := [(0, .ref (o)), (1, va_rf ((y1))), (2, .int ((0 : Int32)))]) [1, 2, 0] rfl ?_
      exact (ih (y1) ((0 : Int32)) 0 _ _).2.1 hR
    · rw [Zo_cutBy_e2] at hR
      unfold Zo_cutBy_t2 at hR
      refine X_iload_n C dZo_cutBy_2 rfl ?_
      refine X_aload_n C dZo_cutBy_3 rfl ?_
      have hq := o_bind hR
      clear hR
      obtain ⟨u1, hx5, hR⟩ := hq
      obtain ⟨fs2, he3, hv4⟩ := gi_e hx5
      refine X_get (k := 0) C oZo fwZo_9 he3 hv4 dZo_cutBy_4 ?_
      refine X_icmp_ge (tgt := 55) C dZo_cutBy_7 (by decide) (fun c6 => ?_) (fun c6 => ?_)
      · rw [if_pos c6] at hR
        rw [← Option.some.inj hR]
        exact X_vret C hr (Nat.le_refl _) (Nat.le_refl _) dZo_cutBy_55 ⟨rfl, rfl, rfl⟩
      · rw [if_neg c6] at hR
        refine X_iconst (v := 0) C dZo_cutBy_10 rfl ?_
        refine X_istore_n (lv' := [(3, .int ((0 : Int32))), (0, .ref (o)), (1, va_rf (y1)), (2, .int (x2))]) C dZo_cutBy_11 (by decide) (by simp [rf_cat, cat_i, cat_r, cat_l, rf_n, rf_s] <;> decide) ?_
        refine X_sub (lv' := [(0, .ref (o)), (1, va_rf ((y1))), (2, .int (x2)), (3, .int ((0 : Int32)))]) [1, 2, 3, 0] rfl ?_
        exact (ih (y1) (x2) ((0 : Int32)) _ _).2.2 hR
    · rw [Zo_cutBy_e12] at hR
      unfold Zo_cutBy_t12 at hR
      refine X_iload_n C dZo_cutBy_12 rfl ?_
      refine X_aload_n C dZo_cutBy_13 rfl ?_
      have hq := o_bind hR
      clear hR
      obtain ⟨u7, hx11, hR⟩ := hq
      obtain ⟨fs8, he9, hv10⟩ := gi_e hx11
      refine X_get (k := 0) C oZo fwZo_9 he9 hv10 dZo_cutBy_14 ?_
      refine X_icmp_ge (tgt := 49) C dZo_cutBy_17 (by decide) (fun c12 => ?_) (fun c12 => ?_)
      · rw [if_pos c12] at hR
        refine X_iinc (v := x2 + 1) (lv' := [(2, .int (x2 + 1)), (0, .ref (o)), (1, va_rf (y1)), (3, .int (x3))]) C dZo_cutBy_49 rfl rfl (by decide) (by simp [rf_cat, cat_i, cat_r, cat_l, rf_n, rf_s] <;> decide) ?_
        refine X_goto (tgt := 2) C dZo_cutBy_52 (by decide) ?_
        refine X_sub (lv' := [(0, .ref (o)), (1, va_rf ((y1))), (2, .int (x2 + 1))]) [1, 2, 0] rfl ?_
        exact (ih (y1) (x2 + 1) 0 _ _).2.1 hR
      · rw [if_neg c12] at hR
        refine X_aload_nq C dZo_cutBy_20 rfl ?_
        have hq := o_bind hR
        clear hR
        obtain ⟨a13, rfl, hR⟩ := hq
        have hq := o_bind hR
        clear hR
        obtain ⟨u14, hx18, hR⟩ := hq
        obtain ⟨fs15, he16, hv17⟩ := gi_e hx18
        refine X_get (k := 0) C oZo fwZo_9 he16 hv17 dZo_cutBy_21 ?_
        refine X_aload_n C dZo_cutBy_24 rfl ?_
        have hq := o_bind hR
        clear hR
        obtain ⟨u19, hx23, hR⟩ := hq
        obtain ⟨fs20, he21, hv22⟩ := gi_e hx23
        refine X_get (k := 0) C oZo fwZo_9 he21 hv22 dZo_cutBy_25 ?_
        refine X_icmp_ne (tgt := 49) C dZo_cutBy_28 (by decide) (fun c24 => ?_) (fun c24 => ?_)
        · rw [if_neg c24] at hR
          refine X_iinc (v := x2 + 1) (lv' := [(2, .int (x2 + 1)), (0, .ref (o)), (1, .ref (a13)), (3, .int (x3))]) C dZo_cutBy_49 rfl rfl (by decide) rfl ?_
          refine X_goto (tgt := 2) C dZo_cutBy_52 (by decide) ?_
          refine X_sub (lv' := [(0, .ref (o)), (1, va_rf ((some (a13)))), (2, .int (x2 + 1))]) [1, 2, 0] rfl ?_
          exact (ih (some (a13)) (x2 + 1) 0 _ _).2.1 hR
        · rw [if_pos c24] at hR
          refine X_aload_n C dZo_cutBy_31 rfl ?_
          refine X_iload_n C dZo_cutBy_32 rfl ?_
          refine X_iload_n C dZo_cutBy_33 rfl ?_
          refine X_aload_n C dZo_cutBy_34 rfl ?_
          refine X_iload_n C dZo_cutBy_35 rfl ?_
          refine X_iload_n C dZo_cutBy_36 rfl ?_
          have hq := o_if hR
          clear hR
          obtain ⟨k30, hR⟩ := hq
          obtain ⟨fs31, he32⟩ := kc_e k30
          have hq := o_bind hR
          clear hR
          obtain ⟨r25, hr25, hR⟩ := hq
          refine X_callVk (As := [.int (x2), .int (x3)]) (rest := [.int (x3), .int (x2), .ref (o)]) C (Zo_at_c hr25) wZo_36 ⟨by decide, by decide⟩ ⟨Nat.le_refl _, Nat.le_refl _⟩ he32 oZo.2.1 rfl rfl (Nat.le_of_ble_eq_true rfl) dZo_cutBy_37 ?_
          show X F G B _ 4 (r25.2) _ _ _ _ _ [.int (r25.1), .int (x3), .int (x2), .ref (o)]
          have hq := o_if hR
          clear hR
          obtain ⟨k27, hR⟩ := hq
          obtain ⟨fs28, he29⟩ := kc_e k27
          have hq := o_bind hR
          clear hR
          obtain ⟨r26, hr26, hR⟩ := hq
          refine X_callVk (As := [.int (x2), .int (x3), .int (r25.1)]) (rest := []) C (Zo_narrow_c hr26) wZo_45 ⟨by decide, by decide⟩ ⟨Nat.le_refl _, Nat.le_refl _⟩ he29 oZo.2.1 rfl rfl (Nat.le_of_ble_eq_true rfl) dZo_cutBy_40 ?_
          show X F G B _ 4 (r26.2) _ _ _ _ _ []
          refine X_iinc (v := x3 + 1) (lv' := [(3, .int (x3 + 1)), (0, .ref (o)), (1, .ref (a13)), (2, .int (x2))]) C dZo_cutBy_43 rfl rfl (by decide) rfl ?_
          refine X_goto (tgt := 12) C dZo_cutBy_46 (by decide) ?_
          refine X_sub (lv' := [(0, .ref (o)), (1, va_rf ((some (a13)))), (2, .int (x2)), (3, .int (x3 + 1))]) [1, 2, 3, 0] rfl ?_
          exact (ih (some (a13)) (x2) (x3 + 1) _ _).2.2 hR
theorem Zo_cutBy_c {l : Launch} {G : xG} {B sz : Nat} {o : Nat} {n : Nat} {y1 : Option Nat} {h : xH} {R : Int32 × xH} (hR : Zo_cutBy_f n 0 o y1 0 0 h = some R) : xCon l yZo_cutBy cZo_cutBy 4 none 2 45 0 0 G B [.ref (o), va_rf (y1)] h sz (kP none R.2 sz) := xCon.of (by decide) (by simp [lg_sl, rf_cat, cat_i, cat_r, cat_l]) (fun F e C hr hnm => X_sub (lv' := [(0, .ref (o)), (1, va_rf (y1))]) [0, 1] (by simp [lv_args, lv_pick, rf_cat, cat_i, cat_r, cat_l]) ((Zo_cutBy_x C hr n y1 0 0 h R).1 hR))
def Ti_init_f (n : Nat) (o : Nat)  (h : xH) (z : Nat) : Option (Int32 × xH × Nat × Nat) := oadd 1 12 (bnd (xup h (z) (.inr (3, [.null, .int 0, .null, .int 0, .int 0, .int 0, .int 0, .int 0, .int 0, .null, .null, .null]))) (fun h1 => obd (Ya_init_f n (z) h1 (z + 1)) (fun r5 => oadd r5.2.2.1 r5.2.2.2 (obd (pf r5.2.1 (o) 4 0 (.ref (z))) (fun h6 => oadd 1 3 (bnd (xup h6 (z + 1 + r5.2.2.1) (.inr (1, [.int 0, .null, .int 0]))) (fun h12 => obd (Zo_init_f n (z + 1 + r5.2.2.1) ((0 : Int32)) h12 (z + 1 + r5.2.2.1 + 1)) (fun r16 => oadd r16.2.2.1 r16.2.2.2 (obd (pf r16.2.1 (o) 4 1 (.ref (z + 1 + r5.2.2.1))) (fun h17 => obd (gq h17 (o) 4 1) (fun w23 => obd w23 (fun a28 => (if kc h17 (a28) 1 = true then obd (Zo_becomeAllTimes_f n 0 (a28) 0 h17) (fun r29 => oadd 1 4 (bnd (xup r29.2 (z + 1 + r5.2.2.1 + 1 + r16.2.2.1) (.inl (0, 4, .inl (fun _ => 0)))) (fun h30 => obd (pf h30 (o) 4 2 (.ref (z + 1 + r5.2.2.1 + 1 + r16.2.2.1))) (fun h34 => oadd 1 8 (bnd (xup h34 (z + 1 + r5.2.2.1 + 1 + r16.2.2.1 + 1) (.inl (8, 8, .inr (.inr (.inr (.inr (fun _ => none))))))) (fun h40 => obd (pf h40 (o) 4 3 (.ref (z + 1 + r5.2.2.1 + 1 + r16.2.2.1 + 1))) (fun h44 => some (0, h44, 0, 0)))))))) else none)))))))))))))
set_option maxRecDepth 100000 in
set_option maxHeartbeats 8000000 in
theorem Ti_init_x {F : xF} {G : xG} {B mc ms : Nat} {o : Nat} (C : xC F G B cTi_init RTi 1 3 64 mc ms) (hr : (xFM F).sig.returnType = none) (hin : (xFM F).name = "<init>") {n : Nat} {h : xH} {z cs ss : Nat} {R : Int32 × xH × Nat × Nat} {Zf : Nat} (hm : cs + R.2.2.1 ≤ mc) (hs : ss + R.2.2.2 ≤ ms) (hz : Zf = z + R.2.2.1) (hR : Ti_init_f n o  h z = some R) : X F G B (xZ F G B (kP none R.2.1 Zf) mc ms) 1 h z cs ss 0 [(0, .ref (o))] [] := by
  unfold Ti_init_f at hR
  refine X_aload_n C dTi_init_0 rfl ?_
  refine X_obj C obTi_1 ⟨by decide, Nat.le_of_ble_eq_true rfl⟩ dTi_init_1 ?_
  refine X_aload_n C dTi_init_4 rfl ?_
  have hq := o_add hR
  clear hR
  obtain ⟨R4, e3, hR⟩ := hq
  subst e3
  dsimp only at hm hs hz ⊢
  refine X_new (fs := [.null, .int 0, .null, .int 0, .int 0, .int 0, .int 0, .int 0, .int 0, .null, .null, .null]) C oYa nwTi_7 (fun j hj => by rcases (show j = 0 ∨ j = 1 ∨ j = 2 ∨ j = 3 ∨ j = 4 ∨ j = 5 ∨ j = 6 ∨ j = 7 ∨ j = 8 ∨ j = 9 ∨ j = 10 ∨ j = 11 by omega) with rfl | rfl | rfl | rfl | rfl | rfl | rfl | rfl | rfl | rfl | rfl | rfl <;> rfl) (by omega) (by omega) dTi_init_5 (fun _ _ => ?_)
  have hq := b_bnd hR
  clear hR
  obtain ⟨h1, e2, hR⟩ := hq
  rw [← e2]
  refine X_dup C dTi_init_8 rfl ?_
  have hq := o_bind hR
  clear hR
  obtain ⟨r5, hr5, hR⟩ := hq
  have hq := o_add hR
  clear hR
  obtain ⟨R56, e55, hR⟩ := hq
  subst e55
  dsimp only at hm hs hz ⊢
  refine X_callIa (As := []) (rest := [.ref (z), .ref (o)]) C (Ya_init_c hr5) wTi_9 ⟨by decide, by decide⟩ ⟨by omega, by omega⟩ rfl rfl (Nat.le_of_ble_eq_true rfl) dTi_init_9 ?_
  show X F G B _ 1 (r5.2.1) _ _ _ _ _ [.ref (z), .ref (o)]
  have hq := o_bind hR
  clear hR
  obtain ⟨h6, hh7, hR⟩ := hq
  obtain ⟨fs8, he9, hl10, e11⟩ := pf_e hh7
  refine X_putF (k := 0) C hin oTi fwTi_10 ⟨rfl, rfl⟩ he9 rfl rfl hl10 dTi_init_12 ?_
  rw [← e11]
  refine X_aload_n C dTi_init_15 rfl ?_
  have hq := o_add hR
  clear hR
  obtain ⟨R15, e14, hR⟩ := hq
  subst e14
  dsimp only at hm hs hz ⊢
  refine X_new (fs := [.int 0, .null, .int 0]) C oZo nwTi_16 (fun j hj => by rcases (show j = 0 ∨ j = 1 ∨ j = 2 by omega) with rfl | rfl | rfl <;> rfl) (by omega) (by omega) dTi_init_16 (fun _ _ => ?_)
  have hq := b_bnd hR
  clear hR
  obtain ⟨h12, e13, hR⟩ := hq
  rw [← e13]
  refine X_dup C dTi_init_19 rfl ?_
  refine X_iconst (v := 0) C dTi_init_20 rfl ?_
  have hq := o_bind hR
  clear hR
  obtain ⟨r16, hr16, hR⟩ := hq
  have hq := o_add hR
  clear hR
  obtain ⟨R54, e53, hR⟩ := hq
  subst e53
  dsimp only at hm hs hz ⊢
  refine X_callIa (As := [.int ((0 : Int32))]) (rest := [.ref (z + 1 + r5.2.2.1), .ref (o)]) C (Zo_init_c hr16) wTi_18 ⟨by decide, by decide⟩ ⟨by omega, by omega⟩ rfl rfl (Nat.le_of_ble_eq_true rfl) dTi_init_21 ?_
  show X F G B _ 1 (r16.2.1) _ _ _ _ _ [.ref (z + 1 + r5.2.2.1), .ref (o)]
  have hq := o_bind hR
  clear hR
  obtain ⟨h17, hh18, hR⟩ := hq
  obtain ⟨fs19, he20, hl21, e22⟩ := pf_e hh18
  refine X_putF (k := 1) C hin oTi fwTi_21 ⟨rfl, rfl⟩ he20 rfl rfl hl21 dTi_init_24 ?_
  rw [← e22]
  refine X_aload_n C dTi_init_27 rfl ?_
  have hq := o_bind hR
  clear hR
  obtain ⟨w23, hx27, hR⟩ := hq
  obtain ⟨fs24, he25, hv26⟩ := gq_e hx27
  refine X_get (k := 1) C oTi fwTi_21 he25 hv26 dTi_init_28 ?_
  have hq := o_bind hR
  clear hR
  obtain ⟨a28, rfl, hR⟩ := hq
  have hq := o_if hR
  clear hR
  obtain ⟨k50, hR⟩ := hq
  obtain ⟨fs51, he52⟩ := kc_e k50
  have hq := o_bind hR
  clear hR
  obtain ⟨r29, hr29, hR⟩ := hq
  refine X_callVk (As := []) (rest := []) C (Zo_becomeAllTimes_c hr29) wTi_25 ⟨by decide, by decide⟩ ⟨by omega, by omega⟩ he52 oZo.2.1 rfl rfl (Nat.le_of_ble_eq_true rfl) dTi_init_31 ?_
  show X F G B _ 1 (r29.2) _ _ _ _ _ []
  refine X_aload_n C dTi_init_34 rfl ?_
  refine X_iconst (v := 4) C dTi_init_35 rfl ?_
  have hq := o_add hR
  clear hR
  obtain ⟨R33, e32, hR⟩ := hq
  subst e32
  dsimp only at hm hs hz ⊢
  refine X_newa (k := 0) (N := 4) (ty := .int) (a0 := (4, .inl (fun _ => 0))) C rfl na_int (fun _ => rfl) (by decide) (by decide) (by decide) (by omega) (by omega) dTi_init_36 (fun _ _ => ?_)
  have hq := b_bnd hR
  clear hR
  obtain ⟨h30, e31, hR⟩ := hq
  rw [← e31]
  have hq := o_bind hR
  clear hR
  obtain ⟨h34, hh35, hR⟩ := hq
  obtain ⟨fs36, he37, hl38, e39⟩ := pf_e hh35
  refine X_putF (k := 2) C hin oTi fwTi_28 ⟨rfl, rfl⟩ he37 rfl rfl hl38 dTi_init_38 ?_
  rw [← e39]
  refine X_aload_n C dTi_init_41 rfl ?_
  refine X_bipush (v := 8) C dTi_init_42 (by decide) ?_
  have hq := o_add hR
  clear hR
  obtain ⟨R43, e42, hR⟩ := hq
  subst e42
  dsimp only at hm hs hz ⊢
  refine X_anew (k := 8) (N := 8) C rfl naTi_32 (by decide) (by decide) (by decide) (by omega) (by omega) dTi_init_44 (fun _ _ => ?_)
  have hq := b_bnd hR
  clear hR
  obtain ⟨h40, e41, hR⟩ := hq
  rw [← e41]
  have hq := o_bind hR
  clear hR
  obtain ⟨h44, hh45, hR⟩ := hq
  obtain ⟨fs46, he47, hl48, e49⟩ := pf_e hh45
  refine X_putF (k := 3) C hin oTi fwTi_34 ⟨rfl, rfl⟩ he47 rfl rfl hl48 dTi_init_47 ?_
  rw [← e49]
  have hR := Option.some.inj hR
  subst hR
  dsimp only at hm hs hz ⊢
  exact X_vret C hr (by omega) (by omega) dTi_init_50 ⟨rfl, rfl, by omega⟩
theorem Ti_init_c {l : Launch} {G : xG} {B sz : Nat} {o : Nat} {n : Nat} {h : xH} {R : Int32 × xH × Nat × Nat} (hR : Ti_init_f n o  h sz = some R) : xCon l yTi_init cTi_init 1 none 3 64 R.2.2.1 R.2.2.2 G B [.ref (o)] h sz (kP none R.2.1 (sz + R.2.2.1)) := xCon.of (by decide) (by exact Nat.le_of_ble_eq_true rfl) (fun F e C hr hnm => X_sub (lv' := [(0, .ref (o))]) [0] rfl (Ti_init_x C hr hnm (Nat.le_of_eq (Nat.zero_add _)) (Nat.le_of_eq (Nat.zero_add _)) rfl hR))
def Ti_machine_f (n : Nat) (o : Nat)  (h : xH) (z : Nat) : Option (Int32 × xH × Nat × Nat) := obd (gq h (o) 4 0) (fun w1 => obd w1 (fun a6 => obd (gi h (a6) 3 1) (fun u7 => (if u7 < (3 : Int32) then obd (gq h (o) 4 0) (fun w13 => obd w13 (fun a18 => obd (gq h (a18) 3 0) (fun w19 => obd (gq h (o) 4 0) (fun w24 => obd w24 (fun a29 => obd (gi h (a29) 3 1) (fun u30 => oadd 1 4 (bnd (xup h (z) (.inr (5, [.null, .null, .int 0, .int 0]))) (fun h35 => obd (Ma_init_f n (z) h35 (z + 1)) (fun r39 => oadd r39.2.2.1 r39.2.2.2 (obd w19 (fun a40 => obd (pq r39.2.1 (a40) 6 (u30) (z) 5) (fun h41 => obd (gq h41 (o) 4 0) (fun w50 => obd w50 (fun a55 => obd (gi h41 (a55) 3 1) (fun u56 => obd (pf h41 (a55) 3 1 (.int ((u56) + ((1 : Int32))))) (fun h61 => obd (gq h61 (o) 4 0) (fun w67 => obd w67 (fun a72 => obd (gi h61 (a72) 3 1) (fun u73 => some ((u73) - ((1 : Int32)), h61, 0, 0)))))))))))))))))))) else some (((-2) : Int32), h, 0, 0)))))
set_option maxRecDepth 100000 in
set_option maxHeartbeats 8000000 in
theorem Ti_machine_x {F : xF} {G : xG} {B mc ms : Nat} {o : Nat} (C : xC F G B cTi_machine RTi 1 2 41 mc ms) (hr : (xFM F).sig.returnType = (some .int)) {n : Nat} {h : xH} {z cs ss : Nat} {R : Int32 × xH × Nat × Nat} {Zf : Nat} (hm : cs + R.2.2.1 ≤ mc) (hs : ss + R.2.2.2 ≤ ms) (hz : Zf = z + R.2.2.1) (hR : Ti_machine_f n o  h z = some R) : X F G B (xZ F G B (kP (some (.int R.1)) R.2.1 Zf) mc ms) 1 h z cs ss 0 [(0, .ref (o))] [] := by
  unfold Ti_machine_f at hR
  refine X_aload_n C dTi_machine_0 rfl ?_
  have hq := o_bind hR
  clear hR
  obtain ⟨w1, hx5, hR⟩ := hq
  obtain ⟨fs2, he3, hv4⟩ := gq_e hx5
  refine X_get (k := 0) C oTi fwTi_10 he3 hv4 dTi_machine_1 ?_
  have hq := o_bind hR
  clear hR
  obtain ⟨a6, rfl, hR⟩ := hq
  have hq := o_bind hR
  clear hR
  obtain ⟨u7, hx11, hR⟩ := hq
  obtain ⟨fs8, he9, hv10⟩ := gi_e hx11
  refine X_get (k := 1) C oYa fwTi_38 he9 hv10 dTi_machine_4 ?_
  refine X_iconst (v := 3) C dTi_machine_7 rfl ?_
  refine X_icmp_lt (tgt := 14) C dTi_machine_8 (by decide) (fun c12 => ?_) (fun c12 => ?_)
  · rw [if_pos c12] at hR
    refine X_aload_n C dTi_machine_14 rfl ?_
    have hq := o_bind hR
    clear hR
    obtain ⟨w13, hx17, hR⟩ := hq
    obtain ⟨fs14, he15, hv16⟩ := gq_e hx17
    refine X_get (k := 0) C oTi fwTi_10 he15 hv16 dTi_machine_15 ?_
    have hq := o_bind hR
    clear hR
    obtain ⟨a18, rfl, hR⟩ := hq
    have hq := o_bind hR
    clear hR
    obtain ⟨w19, hx23, hR⟩ := hq
    obtain ⟨fs20, he21, hv22⟩ := gq_e hx23
    refine X_get (k := 0) C oYa fwTi_42 he21 hv22 dTi_machine_18 ?_
    refine X_aload_n C dTi_machine_21 rfl ?_
    have hq := o_bind hR
    clear hR
    obtain ⟨w24, hx28, hR⟩ := hq
    obtain ⟨fs25, he26, hv27⟩ := gq_e hx28
    refine X_get (k := 0) C oTi fwTi_10 he26 hv27 dTi_machine_22 ?_
    have hq := o_bind hR
    clear hR
    obtain ⟨a29, rfl, hR⟩ := hq
    have hq := o_bind hR
    clear hR
    obtain ⟨u30, hx34, hR⟩ := hq
    obtain ⟨fs31, he32, hv33⟩ := gi_e hx34
    refine X_get (k := 1) C oYa fwTi_38 he32 hv33 dTi_machine_25 ?_
    have hq := o_add hR
    clear hR
    obtain ⟨R38, e37, hR⟩ := hq
    subst e37
    dsimp only at hm hs hz ⊢
    refine X_new (fs := [.null, .null, .int 0, .int 0]) C oMa nwTi_46 (fun j hj => by rcases (show j = 0 ∨ j = 1 ∨ j = 2 ∨ j = 3 by omega) with rfl | rfl | rfl | rfl <;> rfl) (by omega) (by omega) dTi_machine_28 (fun _ _ => ?_)
    have hq := b_bnd hR
    clear hR
    obtain ⟨h35, e36, hR⟩ := hq
    rw [← e36]
    refine X_dup C dTi_machine_31 rfl ?_
    have hq := o_bind hR
    clear hR
    obtain ⟨r39, hr39, hR⟩ := hq
    have hq := o_add hR
    clear hR
    obtain ⟨R79, e78, hR⟩ := hq
    subst e78
    dsimp only at hm hs hz ⊢
    refine X_callIa (As := []) (rest := [.ref (z), .int (u30), va_rf (w19)]) C (Ma_init_c hr39) wTi_48 ⟨by decide, by decide⟩ ⟨by omega, by omega⟩ rfl rfl (by simp [rf_cat, cat_i, cat_r, cat_l]) dTi_machine_32 ?_
    show X F G B _ 1 (r39.2.1) _ _ _ _ _ [.ref (z), .int (u30), va_rf (w19)]
    have hq := o_bind hR
    clear hR
    obtain ⟨a40, rfl, hR⟩ := hq
    have hq := o_bind hR
    clear hR
    obtain ⟨h41, hh42, hR⟩ := hq
    obtain ⟨n43, f44, vs45, he46, hv47, hi48, e49⟩ := pq_e hh42
    refine X_aast C rfl oMa.2.1 he46 hv47 hi48 dTi_machine_35 ?_
    rw [← e49]
    refine X_aload_n C dTi_machine_36 rfl ?_
    have hq := o_bind hR
    clear hR
    obtain ⟨w50, hx54, hR⟩ := hq
    obtain ⟨fs51, he52, hv53⟩ := gq_e hx54
    refine X_get (k := 0) C oTi fwTi_10 he52 hv53 dTi_machine_37 ?_
    refine X_dup C dTi_machine_40 (rf_cat _) ?_
    have hq := o_bind hR
    clear hR
    obtain ⟨a55, rfl, hR⟩ := hq
    have hq := o_bind hR
    clear hR
    obtain ⟨u56, hx60, hR⟩ := hq
    obtain ⟨fs57, he58, hv59⟩ := gi_e hx60
    refine X_get (k := 1) C oYa fwTi_38 he58 hv59 dTi_machine_41 ?_
    refine X_iconst (v := 1) C dTi_machine_44 rfl ?_
    refine X_iadd C dTi_machine_45 ?_
    have hq := o_bind hR
    clear hR
    obtain ⟨h61, hh62, hR⟩ := hq
    obtain ⟨fs63, he64, hl65, e66⟩ := pf_e hh62
    refine X_put (k := 1) C oYa fwTi_38 rfl he64 rfl rfl hl65 dTi_machine_46 ?_
    rw [← e66]
    refine X_aload_n C dTi_machine_49 rfl ?_
    have hq := o_bind hR
    clear hR
    obtain ⟨w67, hx71, hR⟩ := hq
    obtain ⟨fs68, he69, hv70⟩ := gq_e hx71
    refine X_get (k := 0) C oTi fwTi_10 he69 hv70 dTi_machine_50 ?_
    have hq := o_bind hR
    clear hR
    obtain ⟨a72, rfl, hR⟩ := hq
    have hq := o_bind hR
    clear hR
    obtain ⟨u73, hx77, hR⟩ := hq
    obtain ⟨fs74, he75, hv76⟩ := gi_e hx77
    refine X_get (k := 1) C oYa fwTi_38 he75 hv76 dTi_machine_53 ?_
    refine X_iconst (v := 1) C dTi_machine_56 rfl ?_
    refine X_isub C dTi_machine_57 ?_
    have hR := Option.some.inj hR
    subst hR
    dsimp only at hm hs hz ⊢
    exact X_iret C hr (by omega) (by omega) dTi_machine_58 ⟨rfl, rfl, by omega⟩
  · rw [if_neg c12] at hR
    refine X_bipush (v := (-2)) C dTi_machine_11 (by decide) ?_
    have hR := Option.some.inj hR
    subst hR
    dsimp only at hm hs hz ⊢
    exact X_iret C hr (by omega) (by omega) dTi_machine_13 ⟨rfl, rfl, by omega⟩
theorem Ti_machine_c {l : Launch} {G : xG} {B sz : Nat} {o : Nat} {n : Nat} {h : xH} {R : Int32 × xH × Nat × Nat} (hR : Ti_machine_f n o  h sz = some R) : xCon l yTi_machine cTi_machine 1 (some .int) 2 41 R.2.2.1 R.2.2.2 G B [.ref (o)] h sz (kP (some (.int R.1)) R.2.1 (sz + R.2.2.1)) := xCon.of (by decide) (by exact Nat.le_of_ble_eq_true rfl) (fun F e C hr hnm => X_sub (lv' := [(0, .ref (o))]) [0] rfl (Ti_machine_x C hr (Nat.le_of_eq (Nat.zero_add _)) (Nat.le_of_eq (Nat.zero_add _)) rfl hR))
def Ti_place_f (n : Nat) (o : Nat) (x1 : Int32) (h : xH) (z : Nat) : Option (Int32 × xH × Nat × Nat) := obd (gq h (o) 4 0) (fun w1 => obd w1 (fun a6 => (if kc h (a6) 3 = true then obd (Ya_machineAt_f n (a6) (x1) h) (fun r7 => bnd (r7.1) (fun w8 => oel (w8) (some (((-1) : Int32), r7.2, 0, 0)) (fun a10 => obd (gi r7.2 (a10) 5 2) (fun u12 => (if u12 < (6 : Int32) then obd (gq r7.2 (a10) 5 0) (fun w18 => obd (gi r7.2 (a10) 5 2) (fun u23 => oadd 1 3 (bnd (xup r7.2 (z) (.inr (6, [.null, .null, .int 0]))) (fun h28 => obd (Pl_init_f n (z) h28 (z + 1)) (fun r32 => oadd r32.2.2.1 r32.2.2.2 (obd w18 (fun a33 => obd (pq r32.2.1 (a33) 4 (u23) (z) 6) (fun h34 => obd (gi h34 (a10) 5 2) (fun u43 => obd (pf h34 (a10) 5 2 (.int ((u43) + ((1 : Int32))))) (fun h48 => obd (gi h48 (a10) 5 2) (fun u54 => some ((u54) - ((1 : Int32)), h48, 0, 0)))))))))))) else some (((-2) : Int32), r7.2, 0, 0)))))) else none)))
set_option maxRecDepth 100000 in
set_option maxHeartbeats 8000000 in
theorem Ti_place_x {F : xF} {G : xG} {B mc ms : Nat} {o : Nat} (C : xC F G B cTi_place RTi 3 3 61 mc ms) (hr : (xFM F).sig.returnType = (some .int)) {n : Nat} {x1 : Int32} {h : xH} {z cs ss : Nat} {R : Int32 × xH × Nat × Nat} {Zf : Nat} (hm : cs + R.2.2.1 ≤ mc) (hs : ss + R.2.2.2 ≤ ms) (hz : Zf = z + R.2.2.1) (hR : Ti_place_f n o x1 h z = some R) : X F G B (xZ F G B (kP (some (.int R.1)) R.2.1 Zf) mc ms) 3 h z cs ss 0 [(0, .ref (o)), (1, .int (x1))] [] := by
  unfold Ti_place_f at hR
  refine X_aload_n C dTi_place_0 rfl ?_
  have hq := o_bind hR
  clear hR
  obtain ⟨w1, hx5, hR⟩ := hq
  obtain ⟨fs2, he3, hv4⟩ := gq_e hx5
  refine X_get (k := 0) C oTi fwTi_10 he3 hv4 dTi_place_1 ?_
  refine X_iload_n C dTi_place_4 rfl ?_
  have hq := o_bind hR
  clear hR
  obtain ⟨a6, rfl, hR⟩ := hq
  have hq := o_if hR
  clear hR
  obtain ⟨k61, hR⟩ := hq
  obtain ⟨fs62, he63⟩ := kc_e k61
  have hq := o_bind hR
  clear hR
  obtain ⟨r7, hr7, hR⟩ := hq
  refine X_callVk (As := [.int (x1)]) (rest := []) C (Ya_machineAt_c hr7) wTi_49 ⟨by decide, by decide⟩ ⟨by omega, by omega⟩ he63 oYa.2.1 rfl rfl (Nat.le_of_ble_eq_true rfl) dTi_place_5 ?_
  show X F G B _ 3 (r7.2) _ _ _ _ _ [va_rf (r7.1)]
  have hq := b_bnd hR
  clear hR
  obtain ⟨w8, e9, hR⟩ := hq
  rw [← e9]
  refine X_astore_nq (lv' := [(2, va_rf (w8)), (0, .ref (o)), (1, .int (x1))]) C dTi_place_8 (by decide) rfl ?_
  refine X_aload_nq C dTi_place_9 rfl ?_
  refine X_ifnonnullq (tgt := 15) C dTi_place_10 (by decide) (fun a10 e11 => ?_) (fun e11 => ?_)
  · subst e11
    rw [oel_s] at hR
    refine X_aload_n C dTi_place_15 rfl ?_
    have hq := o_bind hR
    clear hR
    obtain ⟨u12, hx16, hR⟩ := hq
    obtain ⟨fs13, he14, hv15⟩ := gi_e hx16
    refine X_get (k := 2) C oMa fwTi_53 he14 hv15 dTi_place_16 ?_
    refine X_bipush (v := 6) C dTi_place_19 (by decide) ?_
    refine X_icmp_lt (tgt := 27) C dTi_place_21 (by decide) (fun c17 => ?_) (fun c17 => ?_)
    · rw [if_pos c17] at hR
      refine X_aload_n C dTi_place_27 rfl ?_
      have hq := o_bind hR
      clear hR
      obtain ⟨w18, hx22, hR⟩ := hq
      obtain ⟨fs19, he20, hv21⟩ := gq_e hx22
      refine X_get (k := 0) C oMa fwTi_56 he20 hv21 dTi_place_28 ?_
      refine X_aload_n C dTi_place_31 rfl ?_
      have hq := o_bind hR
      clear hR
      obtain ⟨u23, hx27, hR⟩ := hq
      obtain ⟨fs24, he25, hv26⟩ := gi_e hx27
      refine X_get (k := 2) C oMa fwTi_53 he25 hv26 dTi_place_32 ?_
      have hq := o_add hR
      clear hR
      obtain ⟨R31, e30, hR⟩ := hq
      subst e30
      dsimp only at hm hs hz ⊢
      refine X_new (fs := [.null, .null, .int 0]) C oPl nwTi_60 (fun j hj => by rcases (show j = 0 ∨ j = 1 ∨ j = 2 by omega) with rfl | rfl | rfl <;> rfl) (by omega) (by omega) dTi_place_35 (fun _ _ => ?_)
      have hq := b_bnd hR
      clear hR
      obtain ⟨h28, e29, hR⟩ := hq
      rw [← e29]
      refine X_dup C dTi_place_38 rfl ?_
      have hq := o_bind hR
      clear hR
      obtain ⟨r32, hr32, hR⟩ := hq
      have hq := o_add hR
      clear hR
      obtain ⟨R60, e59, hR⟩ := hq
      subst e59
      dsimp only at hm hs hz ⊢
      refine X_callIa (As := []) (rest := [.ref (z), .int (u23), va_rf (w18)]) C (Pl_init_c hr32) wTi_62 ⟨by decide, by decide⟩ ⟨by omega, by omega⟩ rfl rfl (by simp [rf_cat, cat_i, cat_r, cat_l]) dTi_place_39 ?_
      show X F G B _ 3 (r32.2.1) _ _ _ _ _ [.ref (z), .int (u23), va_rf (w18)]
      have hq := o_bind hR
      clear hR
      obtain ⟨a33, rfl, hR⟩ := hq
      have hq := o_bind hR
      clear hR
      obtain ⟨h34, hh35, hR⟩ := hq
      obtain ⟨n36, f37, vs38, he39, hv40, hi41, e42⟩ := pq_e hh35
      refine X_aast C rfl oPl.2.1 he39 hv40 hi41 dTi_place_42 ?_
      rw [← e42]
      refine X_aload_n C dTi_place_43 rfl ?_
      refine X_dup C dTi_place_44 rfl ?_
      have hq := o_bind hR
      clear hR
      obtain ⟨u43, hx47, hR⟩ := hq
      obtain ⟨fs44, he45, hv46⟩ := gi_e hx47
      refine X_get (k := 2) C oMa fwTi_53 he45 hv46 dTi_place_45 ?_
      refine X_iconst (v := 1) C dTi_place_48 rfl ?_
      refine X_iadd C dTi_place_49 ?_
      have hq := o_bind hR
      clear hR
      obtain ⟨h48, hh49, hR⟩ := hq
      obtain ⟨fs50, he51, hl52, e53⟩ := pf_e hh49
      refine X_put (k := 2) C oMa fwTi_53 rfl he51 rfl rfl hl52 dTi_place_50 ?_
      rw [← e53]
      refine X_aload_n C dTi_place_53 rfl ?_
      have hq := o_bind hR
      clear hR
      obtain ⟨u54, hx58, hR⟩ := hq
      obtain ⟨fs55, he56, hv57⟩ := gi_e hx58
      refine X_get (k := 2) C oMa fwTi_53 he56 hv57 dTi_place_54 ?_
      refine X_iconst (v := 1) C dTi_place_57 rfl ?_
      refine X_isub C dTi_place_58 ?_
      have hR := Option.some.inj hR
      subst hR
      dsimp only at hm hs hz ⊢
      exact X_iret C hr (by omega) (by omega) dTi_place_59 ⟨rfl, rfl, by omega⟩
    · rw [if_neg c17] at hR
      refine X_bipush (v := (-2)) C dTi_place_24 (by decide) ?_
      have hR := Option.some.inj hR
      subst hR
      dsimp only at hm hs hz ⊢
      exact X_iret C hr (by omega) (by omega) dTi_place_26 ⟨rfl, rfl, by omega⟩
  · subst e11
    rw [oel_n] at hR
    refine X_iconst (v := (-1)) C dTi_place_13 rfl ?_
    have hR := Option.some.inj hR
    subst hR
    dsimp only at hm hs hz ⊢
    exact X_iret C hr (by omega) (by omega) dTi_place_14 ⟨rfl, rfl, by omega⟩
theorem Ti_place_c {l : Launch} {G : xG} {B sz : Nat} {o : Nat} {n : Nat} {x1 : Int32} {h : xH} {R : Int32 × xH × Nat × Nat} (hR : Ti_place_f n o x1 h sz = some R) : xCon l yTi_place cTi_place 3 (some .int) 3 61 R.2.2.1 R.2.2.2 G B [.ref (o), .int (x1)] h sz (kP (some (.int R.1)) R.2.1 (sz + R.2.2.1)) := xCon.of (by decide) (by exact Nat.le_of_ble_eq_true rfl) (fun F e C hr hnm => X_sub (lv' := [(0, .ref (o)), (1, .int (x1))]) [0, 1] rfl (Ti_place_x C hr (Nat.le_of_eq (Nat.zero_add _)) (Nat.le_of_eq (Nat.zero_add _)) rfl hR))
def Ti_isClock_f (n : Nat) (x0 : Int32) (h : xH) : Option (Int32 × xH) := (if x0 < 0 then some ((0 : Int32), h) else (if (4 : Int32) ≤ x0 then some ((0 : Int32), h) else some ((1 : Int32), h)))
set_option maxRecDepth 100000 in
set_option maxHeartbeats 8000000 in
theorem Ti_isClock_x {F : xF} {G : xG} {B sz : Nat} (C : xC F G B cTi_isClock RTi 1 0 0 0 0) (hr : (xFM F).sig.returnType = (some .boolean)) {n : Nat} {x0 : Int32} {h : xH} {R : Int32 × xH} (hR : Ti_isClock_f n x0 h = some R) : X F G B (xZ F G B (kP (some (.int R.1)) R.2 sz) 0 0) 1 h sz 0 0 0 [(0, .int (x0))] [] := by
  unfold Ti_isClock_f at hR
  refine X_iload_n C dTi_isClock_0 rfl ?_
  refine X_if_lt (tgt := 13) C dTi_isClock_1 (by decide) (fun c1 => ?_) (fun c1 => ?_)
  · rw [if_pos c1] at hR
    refine X_iconst (v := 0) C dTi_isClock_13 rfl ?_
    rw [← Option.some.inj hR]
    exact X_zret C hr rfl (Nat.le_refl _) (Nat.le_refl _) dTi_isClock_14 ⟨rfl, rfl, rfl⟩
  · rw [if_neg c1] at hR
    refine X_iload_n C dTi_isClock_4 rfl ?_
    refine X_iconst (v := 4) C dTi_isClock_5 rfl ?_
    refine X_icmp_ge (tgt := 13) C dTi_isClock_6 (by decide) (fun c2 => ?_) (fun c2 => ?_)
    · rw [if_pos c2] at hR
      refine X_iconst (v := 0) C dTi_isClock_13 rfl ?_
      rw [← Option.some.inj hR]
      exact X_zret C hr rfl (Nat.le_refl _) (Nat.le_refl _) dTi_isClock_14 ⟨rfl, rfl, rfl⟩
    · rw [if_neg c2] at hR
      refine X_iconst (v := 1) C dTi_isClock_9 rfl ?_
      refine X_goto (tgt := 14) C dTi_isClock_10 (by decide) ?_
      rw [← Option.some.inj hR]
      exact X_zret C hr rfl (Nat.le_refl _) (Nat.le_refl _) dTi_isClock_14 ⟨rfl, rfl, rfl⟩
theorem Ti_isClock_c {l : Launch} {G : xG} {B sz : Nat} {n : Nat} {x0 : Int32} {h : xH} {R : Int32 × xH} (hR : Ti_isClock_f n x0 h = some R) : xCon l yTi_isClock cTi_isClock 1 (some .boolean) 0 0 0 0 G B [.int (x0)] h sz (kP (some (.int R.1)) R.2 sz) := xCon.of (by decide) (by exact Nat.le_of_ble_eq_true rfl) (fun F e C hr hnm => X_sub (lv' := [(0, .int (x0))]) [0] rfl (Ti_isClock_x C hr hR))
def Ti_isBetween_f (n : Nat) (x0 : Int32) (x1 : Int32) (x2 : Int32) (h : xH) : Option (Int32 × xH) := (if x0 < x1 then some ((0 : Int32), h) else (if x2 < x0 then some ((0 : Int32), h) else some ((1 : Int32), h)))
set_option maxRecDepth 100000 in
set_option maxHeartbeats 8000000 in
theorem Ti_isBetween_x {F : xF} {G : xG} {B sz : Nat} (C : xC F G B cTi_isBetween RTi 3 0 0 0 0) (hr : (xFM F).sig.returnType = (some .boolean)) {n : Nat} {x0 : Int32} {x1 : Int32} {x2 : Int32} {h : xH} {R : Int32 × xH} (hR : Ti_isBetween_f n x0 x1 x2 h = some R) : X F G B (xZ F G B (kP (some (.int R.1)) R.2 sz) 0 0) 3 h sz 0 0 0 [(0, .int (x0)), (1, .int (x1)), (2, .int (x2))] [] := by
  unfold Ti_isBetween_f at hR
  refine X_iload_n C dTi_isBetween_0 rfl ?_
  refine X_iload_n C dTi_isBetween_1 rfl ?_
  refine X_icmp_lt (tgt := 14) C dTi_isBetween_2 (by decide) (fun c1 => ?_) (fun c1 => ?_)
  · rw [if_pos c1] at hR
    refine X_iconst (v := 0) C dTi_isBetween_14 rfl ?_
    rw [← Option.some.inj hR]
    exact X_zret C hr rfl (Nat.le_refl _) (Nat.le_refl _) dTi_isBetween_15 ⟨rfl, rfl, rfl⟩
  · rw [if_neg c1] at hR
    refine X_iload_n C dTi_isBetween_5 rfl ?_
    refine X_iload_n C dTi_isBetween_6 rfl ?_
    refine X_icmp_gt (tgt := 14) C dTi_isBetween_7 (by decide) (fun c2 => ?_) (fun c2 => ?_)
    · rw [if_pos c2] at hR
      refine X_iconst (v := 0) C dTi_isBetween_14 rfl ?_
      rw [← Option.some.inj hR]
      exact X_zret C hr rfl (Nat.le_refl _) (Nat.le_refl _) dTi_isBetween_15 ⟨rfl, rfl, rfl⟩
    · rw [if_neg c2] at hR
      refine X_iconst (v := 1) C dTi_isBetween_10 rfl ?_
      refine X_goto (tgt := 15) C dTi_isBetween_11 (by decide) ?_
      rw [← Option.some.inj hR]
      exact X_zret C hr rfl (Nat.le_refl _) (Nat.le_refl _) dTi_isBetween_15 ⟨rfl, rfl, rfl⟩
theorem Ti_isBetween_c {l : Launch} {G : xG} {B sz : Nat} {n : Nat} {x0 : Int32} {x1 : Int32} {x2 : Int32} {h : xH} {R : Int32 × xH} (hR : Ti_isBetween_f n x0 x1 x2 h = some R) : xCon l yTi_isBetween cTi_isBetween 3 (some .boolean) 0 0 0 0 G B [.int (x0), .int (x1), .int (x2)] h sz (kP (some (.int R.1)) R.2 sz) := xCon.of (by decide) (by exact Nat.le_of_ble_eq_true rfl) (fun F e C hr hnm => X_sub (lv' := [(0, .int (x0)), (1, .int (x1)), (2, .int (x2))]) [0, 1, 2] rfl (Ti_isBetween_x C hr hR))
def Ti_limit_f (n : Nat) (o : Nat) (x1 : Int32) (x2 : Int32) (x3 : Int32) (x4 : Int32) (x5 : Int32) (h : xH) : Option (Int32 × xH) := obd (gq h (o) 4 0) (fun w1 => obd w1 (fun a6 => (if kc h (a6) 3 = true then obd (Ya_placeAt_f n (a6) (x1) (x2) h) (fun r7 => bnd (r7.1) (fun w8 => oel (w8) (some (((-1) : Int32), r7.2)) (fun a10 => (if x3 = 0 then some (((-1) : Int32), r7.2) else obd (Ti_isClock_f n (x3) r7.2) (fun r13 => (if r13.1 = 0 then some (((-1) : Int32), r13.2) else obd (Ti_isBetween_f n (x4) ((0 : Int32)) ((100 : Int32)) r13.2) (fun r15 => (if r15.1 = 0 then some (((-1) : Int32), r15.2) else obd (gi r15.2 (a10) 6 2) (fun u17 => (if u17 < (2 : Int32) then obd (gq r15.2 (a10) 6 0) (fun w23 => obd (gi r15.2 (a10) 6 2) (fun u28 => obd w23 (fun a33 => obd (pa r15.2 (a33) 0 (u28) (x3)) (fun h34 => obd (gq h34 (a10) 6 1) (fun w41 => obd (gi h34 (a10) 6 2) (fun u46 => obd (Zo_mark_f n (x4) (x5) h34) (fun r51 => obd w41 (fun a52 => obd (pa r51.2 (a52) 0 (u46) (r51.1)) (fun h53 => obd (gi h53 (a10) 6 2) (fun u60 => obd (pf h53 (a10) 6 2 (.int ((u60) + ((1 : Int32))))) (fun h65 => obd (gi h65 (a10) 6 2) (fun u71 => some (u71, h65))))))))))))) else some (((-2) : Int32), r15.2))))))))))) else none)))
set_option maxRecDepth 100000 in
set_option maxHeartbeats 8000000 in
theorem Ti_limit_x {F : xF} {G : xG} {B sz : Nat} {o : Nat} (C : xC F G B cTi_limit RTi 7 2 44 0 0) (hr : (xFM F).sig.returnType = (some .int)) {n : Nat} {x1 : Int32} {x2 : Int32} {x3 : Int32} {x4 : Int32} {x5 : Int32} {h : xH} {R : Int32 × xH} (hR : Ti_limit_f n o x1 x2 x3 x4 x5 h = some R) : X F G B (xZ F G B (kP (some (.int R.1)) R.2 sz) 0 0) 7 h sz 0 0 0 [(0, .ref (o)), (1, .int (x1)), (2, .int (x2)), (3, .int (x3)), (4, .int (x4)), (5, .int (x5))] [] := by
  unfold Ti_limit_f at hR
  refine X_aload_n C dTi_limit_0 rfl ?_
  have hq := o_bind hR
  clear hR
  obtain ⟨w1, hx5, hR⟩ := hq
  obtain ⟨fs2, he3, hv4⟩ := gq_e hx5
  refine X_get (k := 0) C oTi fwTi_10 he3 hv4 dTi_limit_1 ?_
  refine X_iload_n C dTi_limit_4 rfl ?_
  refine X_iload_n C dTi_limit_5 rfl ?_
  have hq := o_bind hR
  clear hR
  obtain ⟨a6, rfl, hR⟩ := hq
  have hq := o_if hR
  clear hR
  obtain ⟨k76, hR⟩ := hq
  obtain ⟨fs77, he78⟩ := kc_e k76
  have hq := o_bind hR
  clear hR
  obtain ⟨r7, hr7, hR⟩ := hq
  refine X_callVk (As := [.int (x1), .int (x2)]) (rest := []) C (Ya_placeAt_c hr7) wTi_63 ⟨by decide, by decide⟩ ⟨Nat.le_refl _, Nat.le_refl _⟩ he78 oYa.2.1 rfl rfl (Nat.le_of_ble_eq_true rfl) dTi_limit_6 ?_
  show X F G B _ 7 (r7.2) _ _ _ _ _ [va_rf (r7.1)]
  have hq := b_bnd hR
  clear hR
  obtain ⟨w8, e9, hR⟩ := hq
  rw [← e9]
  refine X_astoreq (lv' := [(6, va_rf (w8)), (0, .ref (o)), (1, .int (x1)), (2, .int (x2)), (3, .int (x3)), (4, .int (x4)), (5, .int (x5))]) C dTi_limit_9 (by decide) rfl ?_
  refine X_aloadq C dTi_limit_11 rfl ?_
  refine X_ifnullq (tgt := 38) C dTi_limit_13 (by decide) (fun e11 => ?_) (fun a10 e11 => ?_)
  · subst e11
    rw [oel_n] at hR
    refine X_iconst (v := (-1)) C dTi_limit_38 rfl ?_
    rw [← Option.some.inj hR]
    exact X_iret C hr (Nat.le_refl _) (Nat.le_refl _) dTi_limit_39 ⟨rfl, rfl, rfl⟩
  · subst e11
    rw [oel_s] at hR
    refine X_iload_n C dTi_limit_16 rfl ?_
    refine X_if_eq (tgt := 38) C dTi_limit_17 (by decide) (fun c12 => ?_) (fun c12 => ?_)
    · rw [if_pos c12] at hR
      refine X_iconst (v := (-1)) C dTi_limit_38 rfl ?_
      rw [← Option.some.inj hR]
      exact X_iret C hr (Nat.le_refl _) (Nat.le_refl _) dTi_limit_39 ⟨rfl, rfl, rfl⟩
    · rw [if_neg c12] at hR
      refine X_iload_n C dTi_limit_20 rfl ?_
      have hq := o_bind hR
      clear hR
      obtain ⟨r13, hr13, hR⟩ := hq
      refine X_callSk (As := [.int (x3)]) (rest := []) C (Ti_isClock_c hr13) wTi_67 ⟨by decide, by decide⟩ ⟨Nat.le_refl _, Nat.le_refl _⟩ rfl rfl (Nat.le_of_ble_eq_true rfl) dTi_limit_21 ?_
      show X F G B _ 7 (r13.2) _ _ _ _ _ [.int (r13.1)]
      refine X_if_eq (tgt := 38) C dTi_limit_24 (by decide) (fun c14 => ?_) (fun c14 => ?_)
      · rw [if_pos c14] at hR
        refine X_iconst (v := (-1)) C dTi_limit_38 rfl ?_
        rw [← Option.some.inj hR]
        exact X_iret C hr (Nat.le_refl _) (Nat.le_refl _) dTi_limit_39 ⟨rfl, rfl, rfl⟩
      · rw [if_neg c14] at hR
        refine X_iload C dTi_limit_27 rfl ?_
        refine X_iconst (v := 0) C dTi_limit_29 rfl ?_
        refine X_bipush (v := 100) C dTi_limit_30 (by decide) ?_
        have hq := o_bind hR
        clear hR
        obtain ⟨r15, hr15, hR⟩ := hq
        refine X_callSk (As := [.int (x4), .int ((0 : Int32)), .int ((100 : Int32))]) (rest := []) C (Ti_isBetween_c hr15) wTi_71 ⟨by decide, by decide⟩ ⟨Nat.le_refl _, Nat.le_refl _⟩ rfl rfl (Nat.le_of_ble_eq_true rfl) dTi_limit_32 ?_
        show X F G B _ 7 (r15.2) _ _ _ _ _ [.int (r15.1)]
        refine X_if_ne (tgt := 40) C dTi_limit_35 (by decide) (fun c16 => ?_) (fun c16 => ?_)
        · rw [if_neg c16] at hR
          refine X_aload C dTi_limit_40 rfl ?_
          have hq := o_bind hR
          clear hR
          obtain ⟨u17, hx21, hR⟩ := hq
          obtain ⟨fs18, he19, hv20⟩ := gi_e hx21
          refine X_get (k := 2) C oPl fwTi_75 he19 hv20 dTi_limit_42 ?_
          refine X_iconst (v := 2) C dTi_limit_45 rfl ?_
          refine X_icmp_lt (tgt := 52) C dTi_limit_46 (by decide) (fun c22 => ?_) (fun c22 => ?_)
          · rw [if_pos c22] at hR
            refine X_aload C dTi_limit_52 rfl ?_
            have hq := o_bind hR
            clear hR
            obtain ⟨w23, hx27, hR⟩ := hq
            obtain ⟨fs24, he25, hv26⟩ := gq_e hx27
            refine X_get (k := 0) C oPl fwTi_78 he25 hv26 dTi_limit_54 ?_
            refine X_aload C dTi_limit_57 rfl ?_
            have hq := o_bind hR
            clear hR
            obtain ⟨u28, hx32, hR⟩ := hq
            obtain ⟨fs29, he30, hv31⟩ := gi_e hx32
            refine X_get (k := 2) C oPl fwTi_75 he30 hv31 dTi_limit_59 ?_
            refine X_iload_n C dTi_limit_62 rfl ?_
            have hq := o_bind hR
            clear hR
            obtain ⟨a33, rfl, hR⟩ := hq
            have hq := o_bind hR
            clear hR
            obtain ⟨h34, hh35, hR⟩ := hq
            obtain ⟨n36, f37, he38, hi39, e40⟩ := pa_e hh35
            refine X_iast C rfl he38 hi39 dTi_limit_63 ?_
            rw [← e40]
            refine X_aload C dTi_limit_64 rfl ?_
            have hq := o_bind hR
            clear hR
            obtain ⟨w41, hx45, hR⟩ := hq
            obtain ⟨fs42, he43, hv44⟩ := gq_e hx45
            refine X_get (k := 1) C oPl fwTi_81 he43 hv44 dTi_limit_66 ?_
            refine X_aload C dTi_limit_69 rfl ?_
            have hq := o_bind hR
            clear hR
            obtain ⟨u46, hx50, hR⟩ := hq
            obtain ⟨fs47, he48, hv49⟩ := gi_e hx50
            refine X_get (k := 2) C oPl fwTi_75 he48 hv49 dTi_limit_71 ?_
            refine X_iload C dTi_limit_74 rfl ?_
            refine X_iload C dTi_limit_76 rfl ?_
            have hq := o_bind hR
            clear hR
            obtain ⟨r51, hr51, hR⟩ := hq
            refine X_callSk (As := [.int (x4), .int (x5)]) (rest := [.int (u46), va_rf (w41)]) C (Zo_mark_c hr51) wTi_84 ⟨by decide, by decide⟩ ⟨Nat.le_refl _, Nat.le_refl _⟩ rfl rfl (by simp [rf_cat, cat_i, cat_r, cat_l]) dTi_limit_78 ?_
            show X F G B _ 7 (r51.2) _ _ _ _ _ [.int (r51.1), .int (u46), va_rf (w41)]
            have hq := o_bind hR
            clear hR
            obtain ⟨a52, rfl, hR⟩ := hq
            have hq := o_bind hR
            clear hR
            obtain ⟨h53, hh54, hR⟩ := hq
            obtain ⟨n55, f56, he57, hi58, e59⟩ := pa_e hh54
            refine X_iast C rfl he57 hi58 dTi_limit_81 ?_
            rw [← e59]
            refine X_aload C dTi_limit_82 rfl ?_
            refine X_dup C dTi_limit_84 rfl ?_
            have hq := o_bind hR
            clear hR
            obtain ⟨u60, hx64, hR⟩ := hq
            obtain ⟨fs61, he62, hv63⟩ := gi_e hx64
            refine X_get (k := 2) C oPl fwTi_75 he62 hv63 dTi_limit_85 ?_
            refine X_iconst (v := 1) C dTi_limit_88 rfl ?_
            refine X_iadd C dTi_limit_89 ?_
            have hq := o_bind hR
            clear hR
            obtain ⟨h65, hh66, hR⟩ := hq
            obtain ⟨fs67, he68, hl69, e70⟩ := pf_e hh66
            refine X_put (k := 2) C oPl fwTi_75 rfl he68 rfl rfl hl69 dTi_limit_90 ?_
            rw [← e70]
            refine X_aload C dTi_limit_93 rfl ?_
            have hq := o_bind hR
            clear hR
            obtain ⟨u71, hx75, hR⟩ := hq
            obtain ⟨fs72, he73, hv74⟩ := gi_e hx75
            refine X_get (k := 2) C oPl fwTi_75 he73 hv74 dTi_limit_95 ?_
            rw [← Option.some.inj hR]
            exact X_iret C hr (Nat.le_refl _) (Nat.le_refl _) dTi_limit_98 ⟨rfl, rfl, rfl⟩
          · rw [if_neg c22] at hR
            refine X_bipush (v := (-2)) C dTi_limit_49 (by decide) ?_
            rw [← Option.some.inj hR]
            exact X_iret C hr (Nat.le_refl _) (Nat.le_refl _) dTi_limit_51 ⟨rfl, rfl, rfl⟩
        · rw [if_pos c16] at hR
          refine X_iconst (v := (-1)) C dTi_limit_38 rfl ?_
          rw [← Option.some.inj hR]
          exact X_iret C hr (Nat.le_refl _) (Nat.le_refl _) dTi_limit_39 ⟨rfl, rfl, rfl⟩
theorem Ti_limit_c {l : Launch} {G : xG} {B sz : Nat} {o : Nat} {n : Nat} {x1 : Int32} {x2 : Int32} {x3 : Int32} {x4 : Int32} {x5 : Int32} {h : xH} {R : Int32 × xH} (hR : Ti_limit_f n o x1 x2 x3 x4 x5 h = some R) : xCon l yTi_limit cTi_limit 7 (some .int) 2 44 0 0 G B [.ref (o), .int (x1), .int (x2), .int (x3), .int (x4), .int (x5)] h sz (kP (some (.int R.1)) R.2 sz) := xCon.of (by decide) (by exact Nat.le_of_ble_eq_true rfl) (fun F e C hr hnm => X_sub (lv' := [(0, .ref (o)), (1, .int (x1)), (2, .int (x2)), (3, .int (x3)), (4, .int (x4)), (5, .int (x5))]) [0, 1, 2, 3, 4, 5] rfl (Ti_limit_x C hr hR))
def Ti_way_f (n : Nat) (o : Nat) (x1 : Int32) (x2 : Int32) (x3 : Int32) (x4 : Int32) (x5 : Int32) (h : xH) (z : Nat) : Option (Int32 × xH × Nat × Nat) := obd (gq h (o) 4 0) (fun w1 => obd w1 (fun a6 => (if kc h (a6) 3 = true then obd (Ya_machineAt_f n (a6) (x1) h) (fun r7 => bnd (r7.1) (fun w8 => oel (w8) (some (((-1) : Int32), r7.2, 0, 0)) (fun a10 => obd (gq r7.2 (o) 4 0) (fun w12 => obd w12 (fun a17 => (if kc r7.2 (a17) 3 = true then obd (Ya_placeAt_f n (a17) (x1) (x2) r7.2) (fun r18 => bnd (r18.1) (fun w19 => oel (w19) (some (((-1) : Int32), r18.2, 0, 0)) (fun a21 => obd (gq r18.2 (o) 4 0) (fun w23 => obd w23 (fun a28 => (if kc r18.2 (a28) 3 = true then obd (Ya_placeAt_f n (a28) (x1) (x3) r18.2) (fun r29 => bnd (r29.1) (fun w30 => oel (w30) (some (((-1) : Int32), r29.2, 0, 0)) (fun a32 => obd (Ti_isBetween_f n (x4) (((-9) : Int32)) ((9 : Int32)) r29.2) (fun r34 => (if r34.1 = 0 then some (((-1) : Int32), r34.2, 0, 0) else obd (Ti_isBetween_f n (x5) ((0 : Int32)) ((7 : Int32)) r34.2) (fun r36 => (if r36.1 = 0 then some (((-1) : Int32), r36.2, 0, 0) else obd (gi r36.2 (a10) 5 3) (fun u38 => (if u38 < (12 : Int32) then obd (gq r36.2 (a10) 5 1) (fun w44 => obd (gi r36.2 (a10) 5 3) (fun u49 => oadd 1 7 (bnd (xup r36.2 (z) (.inr (7, [.int 0, .int 0, .int 0, .int 0, .null, .null, .int 0]))) (fun h54 => obd (Wa_init_f n (z) (x2) (x3) (x4) (x5) h54 (z + 1)) (fun r58 => oadd r58.2.2.1 r58.2.2.2 (obd w44 (fun a59 => obd (pq r58.2.1 (a59) 5 (u49) (z) 7) (fun h60 => obd (gi h60 (a10) 5 3) (fun u69 => obd (pf h60 (a10) 5 3 (.int ((u69) + ((1 : Int32))))) (fun h74 => obd (gi h74 (a10) 5 3) (fun u80 => some ((u80) - ((1 : Int32)), h74, 0, 0)))))))))))) else some (((-2) : Int32), r36.2, 0, 0)))))))))) else none)))))) else none)))))) else none)))
set_option maxRecDepth 100000 in
set_option maxHeartbeats 8000000 in
theorem Ti_way_x {F : xF} {G : xG} {B mc ms : Nat} {o : Nat} (C : xC F G B cTi_way RTi 7 3 65 mc ms) (hr : (xFM F).sig.returnType = (some .int)) {n : Nat} {x1 : Int32} {x2 : Int32} {x3 : Int32} {x4 : Int32} {x5 : Int32} {h : xH} {z cs ss : Nat} {R : Int32 × xH × Nat × Nat} {Zf : Nat} (hm : cs + R.2.2.1 ≤ mc) (hs : ss + R.2.2.2 ≤ ms) (hz : Zf = z + R.2.2.1) (hR : Ti_way_f n o x1 x2 x3 x4 x5 h z = some R) : X F G B (xZ F G B (kP (some (.int R.1)) R.2.1 Zf) mc ms) 7 h z cs ss 0 [(0, .ref (o)), (1, .int (x1)), (2, .int (x2)), (3, .int (x3)), (4, .int (x4)), (5, .int (x5))] [] := by
  unfold Ti_way_f at hR
  refine X_aload_n C dTi_way_0 rfl ?_
  have hq := o_bind hR
  clear hR
  obtain ⟨w1, hx5, hR⟩ := hq
  obtain ⟨fs2, he3, hv4⟩ := gq_e hx5
  refine X_get (k := 0) C oTi fwTi_10 he3 hv4 dTi_way_1 ?_
  refine X_iload_n C dTi_way_4 rfl ?_
  have hq := o_bind hR
  clear hR
  obtain ⟨a6, rfl, hR⟩ := hq
  have hq := o_if hR
  clear hR
  obtain ⟨k93, hR⟩ := hq
  obtain ⟨fs94, he95⟩ := kc_e k93
  have hq := o_bind hR
  clear hR
  obtain ⟨r7, hr7, hR⟩ := hq
  refine X_callVk (As := [.int (x1)]) (rest := []) C (Ya_machineAt_c hr7) wTi_49 ⟨by decide, by decide⟩ ⟨by omega, by omega⟩ he95 oYa.2.1 rfl rfl (Nat.le_of_ble_eq_true rfl) dTi_way_5 ?_
  show X F G B _ 7 (r7.2) _ _ _ _ _ [va_rf (r7.1)]
  have hq := b_bnd hR
  clear hR
  obtain ⟨w8, e9, hR⟩ := hq
  rw [← e9]
  refine X_astoreq (lv' := [(6, va_rf (w8)), (0, .ref (o)), (1, .int (x1)), (2, .int (x2)), (3, .int (x3)), (4, .int (x4)), (5, .int (x5))]) C dTi_way_8 (by decide) rfl ?_
  refine X_aloadq C dTi_way_10 rfl ?_
  refine X_ifnullq (tgt := 39) C dTi_way_12 (by decide) (fun e11 => ?_) (fun a10 e11 => ?_)
  · subst e11
    rw [oel_n] at hR
    refine X_iconst (v := (-1)) C dTi_way_39 rfl ?_
    have hR := Option.some.inj hR
    subst hR
    dsimp only at hm hs hz ⊢
    exact X_iret C hr (by omega) (by omega) dTi_way_40 ⟨rfl, rfl, by omega⟩
  · subst e11
    rw [oel_s] at hR
    refine X_aload_n C dTi_way_15 rfl ?_
    have hq := o_bind hR
    clear hR
    obtain ⟨w12, hx16, hR⟩ := hq
    obtain ⟨fs13, he14, hv15⟩ := gq_e hx16
    refine X_get (k := 0) C oTi fwTi_10 he14 hv15 dTi_way_16 ?_
    refine X_iload_n C dTi_way_19 rfl ?_
    refine X_iload_n C dTi_way_20 rfl ?_
    have hq := o_bind hR
    clear hR
    obtain ⟨a17, rfl, hR⟩ := hq
    have hq := o_if hR
    clear hR
    obtain ⟨k90, hR⟩ := hq
    obtain ⟨fs91, he92⟩ := kc_e k90
    have hq := o_bind hR
    clear hR
    obtain ⟨r18, hr18, hR⟩ := hq
    refine X_callVk (As := [.int (x1), .int (x2)]) (rest := []) C (Ya_placeAt_c hr18) wTi_63 ⟨by decide, by decide⟩ ⟨by omega, by omega⟩ he92 oYa.2.1 rfl rfl (Nat.le_of_ble_eq_true rfl) dTi_way_21 ?_
    show X F G B _ 7 (r18.2) _ _ _ _ _ [va_rf (r18.1)]
    have hq := b_bnd hR
    clear hR
    obtain ⟨w19, e20, hR⟩ := hq
    rw [← e20]
    refine X_ifnullq (tgt := 39) C dTi_way_24 (by decide) (fun e22 => ?_) (fun a21 e22 => ?_)
    · subst e22
      rw [oel_n] at hR
      refine X_iconst (v := (-1)) C dTi_way_39 rfl ?_
      have hR := Option.some.inj hR
      subst hR
      dsimp only at hm hs hz ⊢
      exact X_iret C hr (by omega) (by omega) dTi_way_40 ⟨rfl, rfl, by omega⟩
    · subst e22
      rw [oel_s] at hR
      refine X_aload_n C dTi_way_27 rfl ?_
      have hq := o_bind hR
      clear hR
      obtain ⟨w23, hx27, hR⟩ := hq
      obtain ⟨fs24, he25, hv26⟩ := gq_e hx27
      refine X_get (k := 0) C oTi fwTi_10 he25 hv26 dTi_way_28 ?_
      refine X_iload_n C dTi_way_31 rfl ?_
      refine X_iload_n C dTi_way_32 rfl ?_
      have hq := o_bind hR
      clear hR
      obtain ⟨a28, rfl, hR⟩ := hq
      have hq := o_if hR
      clear hR
      obtain ⟨k87, hR⟩ := hq
      obtain ⟨fs88, he89⟩ := kc_e k87
      have hq := o_bind hR
      clear hR
      obtain ⟨r29, hr29, hR⟩ := hq
      refine X_callVk (As := [.int (x1), .int (x3)]) (rest := []) C (Ya_placeAt_c hr29) wTi_63 ⟨by decide, by decide⟩ ⟨by omega, by omega⟩ he89 oYa.2.1 rfl rfl (Nat.le_of_ble_eq_true rfl) dTi_way_33 ?_
      show X F G B _ 7 (r29.2) _ _ _ _ _ [va_rf (r29.1)]
      have hq := b_bnd hR
      clear hR
      obtain ⟨w30, e31, hR⟩ := hq
      rw [← e31]
      refine X_ifnonnullq (tgt := 41) C dTi_way_36 (by decide) (fun a32 e33 => ?_) (fun e33 => ?_)
      · subst e33
        rw [oel_s] at hR
        refine X_iload C dTi_way_41 rfl ?_
        refine X_bipush (v := (-9)) C dTi_way_43 (by decide) ?_
        refine X_bipush (v := 9) C dTi_way_45 (by decide) ?_
        have hq := o_bind hR
        clear hR
        obtain ⟨r34, hr34, hR⟩ := hq
        refine X_callSk (As := [.int (x4), .int (((-9) : Int32)), .int ((9 : Int32))]) (rest := []) C (Ti_isBetween_c hr34) wTi_71 ⟨by decide, by decide⟩ ⟨by omega, by omega⟩ rfl rfl (Nat.le_of_ble_eq_true rfl) dTi_way_47 ?_
        show X F G B _ 7 (r34.2) _ _ _ _ _ [.int (r34.1)]
        refine X_if_eq (tgt := 64) C dTi_way_50 (by decide) (fun c35 => ?_) (fun c35 => ?_)
        · rw [if_pos c35] at hR
          refine X_iconst (v := (-1)) C dTi_way_64 rfl ?_
          have hR := Option.some.inj hR
          subst hR
          dsimp only at hm hs hz ⊢
          exact X_iret C hr (by omega) (by omega) dTi_way_65 ⟨rfl, rfl, by omega⟩
        · rw [if_neg c35] at hR
          refine X_iload C dTi_way_53 rfl ?_
          refine X_iconst (v := 0) C dTi_way_55 rfl ?_
          refine X_bipush (v := 7) C dTi_way_56 (by decide) ?_
          have hq := o_bind hR
          clear hR
          obtain ⟨r36, hr36, hR⟩ := hq
          refine X_callSk (As := [.int (x5), .int ((0 : Int32)), .int ((7 : Int32))]) (rest := []) C (Ti_isBetween_c hr36) wTi_71 ⟨by decide, by decide⟩ ⟨by omega, by omega⟩ rfl rfl (Nat.le_of_ble_eq_true rfl) dTi_way_58 ?_
          show X F G B _ 7 (r36.2) _ _ _ _ _ [.int (r36.1)]
          refine X_if_ne (tgt := 66) C dTi_way_61 (by decide) (fun c37 => ?_) (fun c37 => ?_)
          · rw [if_neg c37] at hR
            refine X_aload C dTi_way_66 rfl ?_
            have hq := o_bind hR
            clear hR
            obtain ⟨u38, hx42, hR⟩ := hq
            obtain ⟨fs39, he40, hv41⟩ := gi_e hx42
            refine X_get (k := 3) C oMa fwTi_88 he40 hv41 dTi_way_68 ?_
            refine X_bipush (v := 12) C dTi_way_71 (by decide) ?_
            refine X_icmp_lt (tgt := 79) C dTi_way_73 (by decide) (fun c43 => ?_) (fun c43 => ?_)
            · rw [if_pos c43] at hR
              refine X_aload C dTi_way_79 rfl ?_
              have hq := o_bind hR
              clear hR
              obtain ⟨w44, hx48, hR⟩ := hq
              obtain ⟨fs45, he46, hv47⟩ := gq_e hx48
              refine X_get (k := 1) C oMa fwTi_91 he46 hv47 dTi_way_81 ?_
              refine X_aload C dTi_way_84 rfl ?_
              have hq := o_bind hR
              clear hR
              obtain ⟨u49, hx53, hR⟩ := hq
              obtain ⟨fs50, he51, hv52⟩ := gi_e hx53
              refine X_get (k := 3) C oMa fwTi_88 he51 hv52 dTi_way_86 ?_
              have hq := o_add hR
              clear hR
              obtain ⟨R57, e56, hR⟩ := hq
              subst e56
              dsimp only at hm hs hz ⊢
              refine X_new (fs := [.int 0, .int 0, .int 0, .int 0, .null, .null, .int 0]) C oWa nwTi_95 (fun j hj => by rcases (show j = 0 ∨ j = 1 ∨ j = 2 ∨ j = 3 ∨ j = 4 ∨ j = 5 ∨ j = 6 by omega) with rfl | rfl | rfl | rfl | rfl | rfl | rfl <;> rfl) (by omega) (by omega) dTi_way_89 (fun _ _ => ?_)
              have hq := b_bnd hR
              clear hR
              obtain ⟨h54, e55, hR⟩ := hq
              rw [← e55]
              refine X_dup C dTi_way_92 rfl ?_
              refine X_iload_n C dTi_way_93 rfl ?_
              refine X_iload_n C dTi_way_94 rfl ?_
              refine X_iload C dTi_way_95 rfl ?_
              refine X_iload C dTi_way_97 rfl ?_
              have hq := o_bind hR
              clear hR
              obtain ⟨r58, hr58, hR⟩ := hq
              have hq := o_add hR
              clear hR
              obtain ⟨R86, e85, hR⟩ := hq
              subst e85
              dsimp only at hm hs hz ⊢
              refine X_callIa (As := [.int (x2), .int (x3), .int (x4), .int (x5)]) (rest := [.ref (z), .int (u49), va_rf (w44)]) C (Wa_init_c hr58) wTi_97 ⟨by decide, by decide⟩ ⟨by omega, by omega⟩ rfl rfl (by simp [rf_cat, cat_i, cat_r, cat_l]) dTi_way_99 ?_
              show X F G B _ 7 (r58.2.1) _ _ _ _ _ [.ref (z), .int (u49), va_rf (w44)]
              have hq := o_bind hR
              clear hR
              obtain ⟨a59, rfl, hR⟩ := hq
              have hq := o_bind hR
              clear hR
              obtain ⟨h60, hh61, hR⟩ := hq
              obtain ⟨n62, f63, vs64, he65, hv66, hi67, e68⟩ := pq_e hh61
              refine X_aast C rfl oWa.2.1 he65 hv66 hi67 dTi_way_102 ?_
              rw [← e68]
              refine X_aload C dTi_way_103 rfl ?_
              refine X_dup C dTi_way_105 rfl ?_
              have hq := o_bind hR
              clear hR
              obtain ⟨u69, hx73, hR⟩ := hq
              obtain ⟨fs70, he71, hv72⟩ := gi_e hx73
              refine X_get (k := 3) C oMa fwTi_88 he71 hv72 dTi_way_106 ?_
              refine X_iconst (v := 1) C dTi_way_109 rfl ?_
              refine X_iadd C dTi_way_110 ?_
              have hq := o_bind hR
              clear hR
              obtain ⟨h74, hh75, hR⟩ := hq
              obtain ⟨fs76, he77, hl78, e79⟩ := pf_e hh75
              refine X_put (k := 3) C oMa fwTi_88 rfl he77 rfl rfl hl78 dTi_way_111 ?_
              rw [← e79]
              refine X_aload C dTi_way_114 rfl ?_
              have hq := o_bind hR
              clear hR
              obtain ⟨u80, hx84, hR⟩ := hq
              obtain ⟨fs81, he82, hv83⟩ := gi_e hx84
              refine X_get (k := 3) C oMa fwTi_88 he82 hv83 dTi_way_116 ?_
              refine X_iconst (v := 1) C dTi_way_119 rfl ?_
              refine X_isub C dTi_way_120 ?_
              have hR := Option.some.inj hR
              subst hR
              dsimp only at hm hs hz ⊢
              exact X_iret C hr (by omega) (by omega) dTi_way_121 ⟨rfl, rfl, by omega⟩
            · rw [if_neg c43] at hR
              refine X_bipush (v := (-2)) C dTi_way_76 (by decide) ?_
              have hR := Option.some.inj hR
              subst hR
              dsimp only at hm hs hz ⊢
              exact X_iret C hr (by omega) (by omega) dTi_way_78 ⟨rfl, rfl, by omega⟩
          · rw [if_pos c37] at hR
            refine X_iconst (v := (-1)) C dTi_way_64 rfl ?_
            have hR := Option.some.inj hR
            subst hR
            dsimp only at hm hs hz ⊢
            exact X_iret C hr (by omega) (by omega) dTi_way_65 ⟨rfl, rfl, by omega⟩
      · subst e33
        rw [oel_n] at hR
        refine X_iconst (v := (-1)) C dTi_way_39 rfl ?_
        have hR := Option.some.inj hR
        subst hR
        dsimp only at hm hs hz ⊢
        exact X_iret C hr (by omega) (by omega) dTi_way_40 ⟨rfl, rfl, by omega⟩
theorem Ti_way_c {l : Launch} {G : xG} {B sz : Nat} {o : Nat} {n : Nat} {x1 : Int32} {x2 : Int32} {x3 : Int32} {x4 : Int32} {x5 : Int32} {h : xH} {R : Int32 × xH × Nat × Nat} (hR : Ti_way_f n o x1 x2 x3 x4 x5 h sz = some R) : xCon l yTi_way cTi_way 7 (some .int) 3 65 R.2.2.1 R.2.2.2 G B [.ref (o), .int (x1), .int (x2), .int (x3), .int (x4), .int (x5)] h sz (kP (some (.int R.1)) R.2.1 (sz + R.2.2.1)) := xCon.of (by decide) (by exact Nat.le_of_ble_eq_true rfl) (fun F e C hr hnm => X_sub (lv' := [(0, .ref (o)), (1, .int (x1)), (2, .int (x2)), (3, .int (x3)), (4, .int (x4)), (5, .int (x5))]) [0, 1, 2, 3, 4, 5] rfl (Ti_way_x C hr (Nat.le_of_eq (Nat.zero_add _)) (Nat.le_of_eq (Nat.zero_add _)) rfl hR))
