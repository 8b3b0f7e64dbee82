def Ya_wayFrom_f (n : Nat) (o : Nat) (y1 : Option Nat) (x2 : Int32) (x3 : Int32) (h : xH) : Option (Option Nat × xH) := (if kc h (o) 3 = true then obd (Ya_wayAt_f n (o) (x2) (x3) h) (fun r1 => bnd (r1.1) (fun w2 => oel (w2) (some (none, r1.2)) (fun a4 => obd (gi r1.2 (a4) 7 0) (fun u6 => obd y1 (fun a11 => obd (gq r1.2 (a11) 2 1) (fun w12 => obd w12 (fun a17 => obd (ai r1.2 (a17) 0 (x2)) (fun u18 => (if u6 = u18 then some ((some (a4)), r1.2) else some (none, r1.2)))))))))) else none)
set_option maxRecDepth 100000 in
set_option maxHeartbeats 8000000 in
theorem Ya_wayFrom_x {F : xF} {G : xG} {B sz : Nat} {o : Nat} (C : xC F G B cYa_wayFrom RYa 5 2 44 0 0) (hr : (xFM F).sig.returnType = (some (.object "TimedYard$Way"))) {n : Nat} {y1 : Option Nat} {x2 : Int32} {x3 : Int32} {h : xH} {R : Option Nat × xH} (hR : Ya_wayFrom_f n o y1 x2 x3 h = some R) : X F G B (xZ F G B (kP (some (va_rf R.1)) R.2 sz) 0 0) 5 h sz 0 0 0 [(0, .ref (o)), (1, va_rf (y1)), (2, .int (x2)), (3, .int (x3))] [] := by
  unfold Ya_wayFrom_f at hR
  refine X_aload_n C dYa_wayFrom_0 rfl ?_
  refine X_iload_n C dYa_wayFrom_1 rfl ?_
  refine X_iload_n C dYa_wayFrom_2 rfl ?_
  have hq := o_if hR
  clear hR
  obtain ⟨k26, hR⟩ := hq
  obtain ⟨fs27, he28⟩ := kc_e k26
  have hq := o_bind hR
  clear hR
  obtain ⟨r1, hr1, hR⟩ := hq
  refine X_callVk (As := [.int (x2), .int (x3)]) (rest := []) C (Ya_wayAt_c hr1) wYa_130 ⟨by decide, by decide⟩ ⟨Nat.le_refl _, Nat.le_refl _⟩ he28 oYa.2.1 rfl rfl (Nat.le_of_ble_eq_true rfl) dYa_wayFrom_3 ?_
  show X F G B _ 5 (r1.2) _ _ _ _ _ [va_rf (r1.1)]
  have hq := b_bnd hR
  clear hR
  obtain ⟨w2, e3, hR⟩ := hq
  rw [← e3]
  refine X_astoreq (lv' := [(4, va_rf (w2)), (0, .ref (o)), (1, va_rf (y1)), (2, .int (x2)), (3, .int (x3))]) C dYa_wayFrom_6 (by decide) (by simp [rf_cat, cat_i, cat_r, cat_l, rf_n, rf_s] <;> decide) ?_
  refine X_aloadq C dYa_wayFrom_8 rfl ?_
  refine X_ifnullq (tgt := 32) C dYa_wayFrom_10 (by decide) (fun e5 => ?_) (fun a4 e5 => ?_)
  · subst e5
    rw [oel_n] at hR
    refine X_null C dYa_wayFrom_32 ?_
    rw [← Option.some.inj hR]
    exact X_aret C hr (Or.inl ⟨_, rfl⟩) (Or.inl rfl) (Nat.le_refl _) (Nat.le_refl _) dYa_wayFrom_33 ⟨rfl, rfl, rfl⟩
  · subst e5
    rw [oel_s] at hR
    refine X_aload C dYa_wayFrom_13 rfl ?_
    have hq := o_bind hR
    clear hR
    obtain ⟨u6, hx10, hR⟩ := hq
    obtain ⟨fs7, he8, hv9⟩ := gi_e hx10
    refine X_get (k := 0) C oWa fwYa_189 he8 hv9 dYa_wayFrom_15 ?_
    refine X_aload_nq C dYa_wayFrom_18 rfl ?_
    have hq := o_bind hR
    clear hR
    obtain ⟨a11, rfl, hR⟩ := hq
    have hq := o_bind hR
    clear hR
    obtain ⟨w12, hx16, hR⟩ := hq
    obtain ⟨fs13, he14, hv15⟩ := gq_e hx16
    refine X_get (k := 1) C oSt fwYa_192 he14 hv15 dYa_wayFrom_19 ?_
    refine X_iload_n C dYa_wayFrom_22 rfl ?_
    have hq := o_bind hR
    clear hR
    obtain ⟨a17, rfl, hR⟩ := hq
    have hq := o_bind hR
    clear hR
    obtain ⟨u18, hx19, hR⟩ := hq
    obtain ⟨n20, f21, he22, hi23, e24⟩ := ai_e hx19
    refine X_iald C rfl he22 hi23 dYa_wayFrom_23 ?_
    rw [← e24]
    refine X_icmp_ne (tgt := 32) C dYa_wayFrom_24 (by decide) (fun c25 => ?_) (fun c25 => ?_)
    · rw [if_neg c25] at hR
      refine X_null C dYa_wayFrom_32 ?_
      rw [← Option.some.inj hR]
      exact X_aret C hr (Or.inl ⟨_, rfl⟩) (Or.inl rfl) (Nat.le_refl _) (Nat.le_refl _) dYa_wayFrom_33 ⟨rfl, rfl, rfl⟩
    · rw [if_pos c25] at hR
      refine X_aload C dYa_wayFrom_27 rfl ?_
      refine X_goto (tgt := 33) C dYa_wayFrom_29 (by decide) ?_
      rw [← Option.some.inj hR]
      exact X_aret C hr (Or.inl ⟨_, rfl⟩) (Or.inr ⟨_, rfl⟩) (Nat.le_refl _) (Nat.le_refl _) dYa_wayFrom_33 ⟨rfl, rfl, rfl⟩
theorem Ya_wayFrom_c {l : Launch} {G : xG} {B sz : Nat} {o : Nat} {n : Nat} {y1 : Option Nat} {x2 : Int32} {x3 : Int32} {h : xH} {R : Option Nat × xH} (hR : Ya_wayFrom_f n o y1 x2 x3 h = some R) : xCon l yYa_wayFrom cYa_wayFrom 5 (some (.object "TimedYard$Way")) 2 44 0 0 G B [.ref (o), va_rf (y1), .int (x2), .int (x3)] h sz (kP (some (va_rf R.1)) R.2 sz) := xCon.of (by decide) (by simp [lg_sl, rf_cat, cat_i, cat_r, cat_l]) (fun F e C hr _ => X_sub (lv' := [(0, .ref (o)), (1, va_rf (y1)), (2, .int (x2)), (3, .int (x3))]) [0, 1, 2, 3] (by simp [lv_args, lv_pick, rf_cat, cat_i, cat_r, cat_l]) (Ya_wayFrom_x C hr hR))
def Zo_at_f (n : Nat) (o : Nat) (x1 : Int32) (x2 : Int32) (h : xH) : Option (Int32 × xH) := obd (gq h (o) 1 1) (fun w1 => obd (gi h (o) 1 0) (fun u6 => obd w1 (fun a11 => obd (ai h (a11) 0 (((x1) * (u6)) + (x2))) (fun u12 => some (u12, h)))))
set_option maxRecDepth 100000 in
set_option maxHeartbeats 8000000 in
theorem Zo_at_x {F : xF} {G : xG} {B sz : Nat} {o : Nat} (C : xC F G B cZo_at RZo 3 0 0 0 0) (hr : (xFM F).sig.returnType = (some .int)) {n : Nat} {x1 : Int32} {x2 : Int32} {h : xH} {R : Int32 × xH} (hR : Zo_at_f n o x1 x2 h = some R) : X F G B (xZ F G B (kP (some (.int R.1)) R.2 sz) 0 0) 3 h sz 0 0 0 [(0, .ref (o)), (1, .int (x1)), (2, .int (x2))] [] := by
  unfold Zo_at_f at hR
  refine X_aload_n C dZo_at_0 rfl ?_
  have hq := o_bind hR
  clear hR
  obtain ⟨w1, hx5, hR⟩ := hq
  obtain ⟨fs2, he3, hv4⟩ := gq_e hx5
  refine X_get (k := 1) C oZo fwZo_15 he3 hv4 dZo_at_1 ?_
  refine X_iload_n C dZo_at_4 rfl ?_
  refine X_aload_n C dZo_at_5 rfl ?_
  have hq := o_bind hR
  clear hR
  obtain ⟨u6, hx10, hR⟩ := hq
  obtain ⟨fs7, he8, hv9⟩ := gi_e hx10
  refine X_get (k := 0) C oZo fwZo_9 he8 hv9 dZo_at_6 ?_
  refine X_imul C dZo_at_9 ?_
  refine X_iload_n C dZo_at_10 rfl ?_
  refine X_iadd C dZo_at_11 ?_
  have hq := o_bind hR
  clear hR
  obtain ⟨a11, rfl, hR⟩ := hq
  have hq := o_bind hR
  clear hR
  obtain ⟨u12, hx13, hR⟩ := hq
  obtain ⟨n14, f15, he16, hi17, e18⟩ := ai_e hx13
  refine X_iald C rfl he16 hi17 dZo_at_12 ?_
  rw [← e18]
  rw [← Option.some.inj hR]
  exact X_iret C hr (Nat.le_refl _) (Nat.le_refl _) dZo_at_13 ⟨rfl, rfl, rfl⟩
theorem Zo_at_c {l : Launch} {G : xG} {B sz : Nat} {o : Nat} {n : Nat} {x1 : Int32} {x2 : Int32} {h : xH} {R : Int32 × xH} (hR : Zo_at_f n o x1 x2 h = some R) : xCon l yZo_at cZo_at 3 (some .int) 0 0 0 0 G B [.ref (o), .int (x1), .int (x2)] h sz (kP (some (.int R.1)) R.2 sz) := xCon.of (by decide) (by exact Nat.le_of_ble_eq_true rfl) (fun F e C hr _ => X_sub (lv' := [(0, .ref (o)), (1, .int (x1)), (2, .int (x2))]) [0, 1, 2] rfl (Zo_at_x C hr hR))
def Zo_sum_f (n : Nat) (x0 : Int32) (x1 : Int32) (h : xH) : Option (Int32 × xH) := (if x0 = (1000000 : Int32) then some ((1000000 : Int32), h) else (if x1 = (1000000 : Int32) then some ((1000000 : Int32), h) else some (((x0) + (x1)) - (((x0) ||| (x1)) &&& ((1 : Int32))), h)))
set_option maxRecDepth 100000 in
set_option maxHeartbeats 8000000 in
theorem Zo_sum_x {F : xF} {G : xG} {B sz : Nat} (C : xC F G B cZo_sum RZo 2 0 0 0 0) (hr : (xFM F).sig.returnType = (some .int)) {n : Nat} {x0 : Int32} {x1 : Int32} {h : xH} {R : Int32 × xH} (hR : Zo_sum_f n x0 x1 h = some R) : X F G B (xZ F G B (kP (some (.int R.1)) R.2 sz) 0 0) 2 h sz 0 0 0 [(0, .int (x0)), (1, .int (x1))] [] := by
  unfold Zo_sum_f at hR
  refine X_iload_n C dZo_sum_0 rfl ?_
  refine X_ldc (v := 1000000) C kZo_25 dZo_sum_1 ?_
  refine X_icmp_eq (tgt := 12) C dZo_sum_3 (by decide) (fun c1 => ?_) (fun c1 => ?_)
  · rw [if_pos c1] at hR
    refine X_ldc (v := 1000000) C kZo_25 dZo_sum_12 ?_
    rw [← Option.some.inj hR]
    exact X_iret C hr (Nat.le_refl _) (Nat.le_refl _) dZo_sum_14 ⟨rfl, rfl, rfl⟩
  · rw [if_neg c1] at hR
    refine X_iload_n C dZo_sum_6 rfl ?_
    refine X_ldc (v := 1000000) C kZo_25 dZo_sum_7 ?_
    refine X_icmp_ne (tgt := 15) C dZo_sum_9 (by decide) (fun c2 => ?_) (fun c2 => ?_)
    · rw [if_neg c2] at hR
      refine X_iload_n C dZo_sum_15 rfl ?_
      refine X_iload_n C dZo_sum_16 rfl ?_
      refine X_iadd C dZo_sum_17 ?_
      refine X_iload_n C dZo_sum_18 rfl ?_
      refine X_iload_n C dZo_sum_19 rfl ?_
      refine X_ior C dZo_sum_20 ?_
      refine X_iconst (v := 1) C dZo_sum_21 rfl ?_
      refine X_iand C dZo_sum_22 ?_
      refine X_isub C dZo_sum_23 ?_
      rw [← Option.some.inj hR]
      exact X_iret C hr (Nat.le_refl _) (Nat.le_refl _) dZo_sum_24 ⟨rfl, rfl, rfl⟩
    · rw [if_pos c2] at hR
      refine X_ldc (v := 1000000) C kZo_25 dZo_sum_12 ?_
      rw [← Option.some.inj hR]
      exact X_iret C hr (Nat.le_refl _) (Nat.le_refl _) dZo_sum_14 ⟨rfl, rfl, rfl⟩
theorem Zo_sum_c {l : Launch} {G : xG} {B sz : Nat} {n : Nat} {x0 : Int32} {x1 : Int32} {h : xH} {R : Int32 × xH} (hR : Zo_sum_f n x0 x1 h = some R) : xCon l yZo_sum cZo_sum 2 (some .int) 0 0 0 0 G B [.int (x0), .int (x1)] h sz (kP (some (.int R.1)) R.2 sz) := xCon.of (by decide) (by exact Nat.le_of_ble_eq_true rfl) (fun F e C hr _ => X_sub (lv' := [(0, .int (x0)), (1, .int (x1))]) [0, 1] rfl (Zo_sum_x C hr hR))
def Zo_squeeze_t0 (f : Nat → Int32 → Int32 → Int32 → Int32 → Int32 → Int32 → xH → Option (Int32 × xH)) (n : Nat) (o : Nat) (x1 : Int32) (x2 : Int32) (x3 : Int32) (x4 : Int32) (x5 : Int32) (x6 : Int32) (h : xH) : Option (Int32 × xH) := obd (gi h (o) 1 2) (fun u1 => (if u1 = 0 then (if kc h (o) 1 = true then obd (Zo_at_f n (o) (x1) (x2) h) (fun r7 => (if x3 < r7.1 then (if kc r7.2 (o) 1 = true then obd (Zo_at_f n (o) (x2) (x1) r7.2) (fun r9 => obd (Zo_sum_f n (x3) (r9.1) r9.2) (fun r10 => (if (1 : Int32) ≤ r10.1 then f 41 (x1) (x2) (x3) ((0 : Int32)) 0 0 r10.2 else obd (pf r10.2 (o) 1 2 (.int ((1 : Int32)))) (fun h12 => some (0, h12))))) else none) else some (0, r7.2))) else none) else some (0, h)))
def Zo_squeeze_t41 (f : Nat → Int32 → Int32 → Int32 → Int32 → Int32 → Int32 → xH → Option (Int32 × xH)) (n : Nat) (o : Nat) (x1 : Int32) (x2 : Int32) (x3 : Int32) (x4 : Int32) (x5 : Int32) (x6 : Int32) (h : xH) : Option (Int32 × xH) := obd (gi h (o) 1 0) (fun u24 => (if u24 ≤ x4 then some (0, h) else (if kc h (o) 1 = true then obd (Zo_at_f n (o) (x4) (x1) h) (fun r30 => obd (Zo_sum_f n (r30.1) (x3) r30.2) (fun r31 => f 66 (x1) (x2) (x3) (x4) (r31.1) ((0 : Int32)) r31.2)) else none)))
def Zo_squeeze_t66 (f : Nat → Int32 → Int32 → Int32 → Int32 → Int32 → Int32 → xH → Option (Int32 × xH)) (n : Nat) (o : Nat) (x1 : Int32) (x2 : Int32) (x3 : Int32) (x4 : Int32) (x5 : Int32) (x6 : Int32) (h : xH) : Option (Int32 × xH) := obd (gi h (o) 1 0) (fun u35 => (if u35 ≤ x6 then f 41 (x1) (x2) (x3) (x4 + 1) 0 0 h else (if x5 = (1000000 : Int32) then f 41 (x1) (x2) (x3) (x4 + 1) 0 0 h else obd (gq h (o) 1 1) (fun w42 => obd (gi h (o) 1 0) (fun u47 => (if kc h (o) 1 = true then obd (Zo_at_f n (o) (x4) (x6) h) (fun r52 => (if kc r52.2 (o) 1 = true then obd (Zo_at_f n (o) (x2) (x6) r52.2) (fun r53 => obd (Zo_sum_f n (x5) (r53.1) r53.2) (fun r54 => obd w42 (fun a55 => obd (pa r54.2 (a55) 0 (((x4) * (u47)) + (x6)) ((if r54.1 < r52.1 then r54.1 else r52.1))) (fun h56 => f 66 (x1) (x2) (x3) (x4) (x5) (x6 + 1) h56)))) else none)) else none))))))
def Zo_squeeze_f : Nat → Nat → Nat → Int32 → Int32 → Int32 → Int32 → Int32 → Int32 → xH → Option (Int32 × xH)
  | 0 => fun _ _ _ _ _ _ _ _ _ => none
  | n + 1 => fun p o x1 x2 x3 x4 x5 x6 h => if p = 0 then Zo_squeeze_t0 (fun p x1 x2 x3 x4 x5 x6 h => Zo_squeeze_f n p o x1 x2 x3 x4 x5 x6 h) n o x1 x2 x3 x4 x5 x6 h else if p = 41 then Zo_squeeze_t41 (fun p x1 x2 x3 x4 x5 x6 h => Zo_squeeze_f n p o x1 x2 x3 x4 x5 x6 h) n o x1 x2 x3 x4 x5 x6 h else if p = 66 then Zo_squeeze_t66 (fun p x1 x2 x3 x4 x5 x6 h => Zo_squeeze_f n p o x1 x2 x3 x4 x5 x6 h) n o x1 x2 x3 x4 x5 x6 h else none
theorem Zo_squeeze_e0 (n : Nat) (o : Nat) (x1 : Int32) (x2 : Int32) (x3 : Int32) (x4 : Int32) (x5 : Int32) (x6 : Int32) (h : xH) : Zo_squeeze_f (n + 1) 0 o x1 x2 x3 x4 x5 x6 h = Zo_squeeze_t0 (fun p x1 x2 x3 x4 x5 x6 h => Zo_squeeze_f n p o x1 x2 x3 x4 x5 x6 h) n o x1 x2 x3 x4 x5 x6 h := by
  show (if 0 = 0 then Zo_squeeze_t0 (fun p x1 x2 x3 x4 x5 x6 h => Zo_squeeze_f n p o x1 x2 x3 x4 x5 x6 h) n o x1 x2 x3 x4 x5 x6 h else if 0 = 41 then Zo_squeeze_t41 (fun p x1 x2 x3 x4 x5 x6 h => Zo_squeeze_f n p o x1 x2 x3 x4 x5 x6 h) n o x1 x2 x3 x4 x5 x6 h else if 0 = 66 then Zo_squeeze_t66 (fun p x1 x2 x3 x4 x5 x6 h => Zo_squeeze_f n p o x1 x2 x3 x4 x5 x6 h) n o x1 x2 x3 x4 x5 x6 h else none) = _
  rw [if_pos rfl]
theorem Zo_squeeze_e41 (n : Nat) (o : Nat) (x1 : Int32) (x2 : Int32) (x3 : Int32) (x4 : Int32) (x5 : Int32) (x6 : Int32) (h : xH) : Zo_squeeze_f (n + 1) 41 o x1 x2 x3 x4 x5 x6 h = Zo_squeeze_t41 (fun p x1 x2 x3 x4 x5 x6 h => Zo_squeeze_f n p o x1 x2 x3 x4 x5 x6 h) n o x1 x2 x3 x4 x5 x6 h := by
  show (if 41 = 0 then Zo_squeeze_t0 (fun p x1 x2 x3 x4 x5 x6 h => Zo_squeeze_f n p o x1 x2 x3 x4 x5 x6 h) n o x1 x2 x3 x4 x5 x6 h else if 41 = 41 then Zo_squeeze_t41 (fun p x1 x2 x3 x4 x5 x6 h => Zo_squeeze_f n p o x1 x2 x3 x4 x5 x6 h) n o x1 x2 x3 x4 x5 x6 h else if 41 = 66 then Zo_squeeze_t66 (fun p x1 x2 x3 x4 x5 x6 h => Zo_squeeze_f n p o x1 x2 x3 x4 x5 x6 h) n o x1 x2 x3 x4 x5 x6 h else none) = _
  rw [if_neg (by decide), if_pos rfl]
theorem Zo_squeeze_e66 (n : Nat) (o : Nat) (x1 : Int32) (x2 : Int32) (x3 : Int32) (x4 : Int32) (x5 : Int32) (x6 : Int32) (h : xH) : Zo_squeeze_f (n + 1) 66 o x1 x2 x3 x4 x5 x6 h = Zo_squeeze_t66 (fun p x1 x2 x3 x4 x5 x6 h => Zo_squeeze_f n p o x1 x2 x3 x4 x5 x6 h) n o x1 x2 x3 x4 x5 x6 h := by
  show (if 66 = 0 then Zo_squeeze_t0 (fun p x1 x2 x3 x4 x5 x6 h => Zo_squeeze_f n p o x1 x2 x3 x4 x5 x6 h) n o x1 x2 x3 x4 x5 x6 h else if 66 = 41 then Zo_squeeze_t41 (fun p x1 x2 x3 x4 x5 x6 h => Zo_squeeze_f n p o x1 x2 x3 x4 x5 x6 h) n o x1 x2 x3 x4 x5 x6 h else if 66 = 66 then Zo_squeeze_t66 (fun p x1 x2 x3 x4 x5 x6 h => Zo_squeeze_f n p o x1 x2 x3 x4 x5 x6 h) n o x1 x2 x3 x4 x5 x6 h else none) = _
  rw [if_neg (by decide), if_neg (by decide), if_pos rfl]
set_option maxRecDepth 100000 in
set_option maxHeartbeats 8000000 in
theorem Zo_squeeze_x {F : xF} {G : xG} {B sz : Nat} {o : Nat} (C : xC F G B cZo_squeeze RZo 7 1 22 0 0) (hr : (xFM F).sig.returnType = none) : ∀ (n : Nat) (x1 : Int32) (x2 : Int32) (x3 : Int32) (x4 : Int32) (x5 : Int32) (x6 : Int32) (h : xH) (R : Int32 × xH), (Zo_squeeze_f n 0 o x1 x2 x3 x4 x5 x6 h = some R → X F G B (xZ F G B (kP none R.2 sz) 0 0) 7 h sz 0 0 0 [(0, .ref (o)), (1, .int (x1)), (2, .int (x2)), (3, .int (x3))] []) ∧ (Zo_squeeze_f n 41 o x1 x2 x3 x4 x5 x6 h = some R → X F G B (xZ F G B (kP none R.2 sz) 0 0) 7 h sz 0 0 41 [(0, .ref (o)), (1, .int (x1)), (2, .int (x2)), (3, .int (x3)), (4, .int (x4))] []) ∧ (Zo_squeeze_f n 66 o x1 x2 x3 x4 x5 x6 h = some R → X F G B (xZ F G B (kP none R.2 sz) 0 0) 7 h sz 0 0 66 [(0, .ref (o)), (1, .int (x1)), (2, .int (x2)), (3, .int (x3)), (4, .int (x4)), (5, .int (x5)), (6, .int (x6))] []) := by
  intro n
  induction n with
  | zero => exact fun _ _ _ _ _ _ _ _ => ⟨(fun hR => nomatch (show (none : Option _) = some _ from hR)), (fun hR => nomatch (show (none : Option _) = some _ from hR)), (fun hR => nomatch (show (none : Option _) = some _ from hR))⟩
  | succ n ih =>
    intro x1 x2 x3 x4 x5 x6 h R
    refine ⟨fun hR => ?_, fun hR => ?_, fun hR => ?_⟩
    · rw [Zo_squeeze_e0] at hR
      unfold Zo_squeeze_t0 at hR
      refine X_aload_n C dZo_squeeze_0 rfl ?_
      have hq := o_bind hR
      clear hR
      obtain ⟨u1, hx5, hR⟩ := hq
      obtain ⟨fs2, he3, hv4⟩ := gi_e hx5
      refine X_get (k := 2) C oZo fwZo_26 he3 hv4 dZo_squeeze_1 ?_
      refine X_if_ne (tgt := 17) C dZo_squeeze_4 (by decide) (fun c6 => ?_) (fun c6 => ?_)
      · rw [if_neg c6] at hR
        rw [← Option.some.inj hR]
        exact X_vret C hr (Nat.le_refl _) (Nat.le_refl _) dZo_squeeze_17 ⟨rfl, rfl, rfl⟩
      · rw [if_pos c6] at hR
        refine X_iload_n C dZo_squeeze_7 rfl ?_
        refine X_aload_n C dZo_squeeze_8 rfl ?_
        refine X_iload_n C dZo_squeeze_9 rfl ?_
        refine X_iload_n C dZo_squeeze_10 rfl ?_
        have hq := o_if hR
        clear hR
        obtain ⟨k21, hR⟩ := hq
        obtain ⟨fs22, he23⟩ := kc_e k21
        have hq := o_bind hR
        clear hR
        obtain ⟨r7, hr7, hR⟩ := hq
        refine X_callVk (As := [.int (x1), .int (x2)]) (rest := [.int (x3)]) C (Zo_at_c hr7) wZo_36 ⟨by decide, by decide⟩ ⟨Nat.le_refl _, Nat.le_refl _⟩ he23 oZo.2.1 rfl rfl (Nat.le_of_ble_eq_true rfl) dZo_squeeze_11 ?_
        show X F G B _ 7 (r7.2) _ _ _ _ _ [.int (r7.1), .int (x3)]
        refine X_icmp_lt (tgt := 18) C dZo_squeeze_14 (by decide) (fun c8 => ?_) (fun c8 => ?_)
        · rw [if_pos c8] at hR
          refine X_iload_n C dZo_squeeze_18 rfl ?_
          refine X_aload_n C dZo_squeeze_19 rfl ?_
          refine X_iload_n C dZo_squeeze_20 rfl ?_
          refine X_iload_n C dZo_squeeze_21 rfl ?_
          have hq := o_if hR
          clear hR
          obtain ⟨k18, hR⟩ := hq
          obtain ⟨fs19, he20⟩ := kc_e k18
          have hq := o_bind hR
          clear hR
          obtain ⟨r9, hr9, hR⟩ := hq
          refine X_callVk (As := [.int (x2), .int (x1)]) (rest := [.int (x3)]) C (Zo_at_c hr9) wZo_36 ⟨by decide, by decide⟩ ⟨Nat.le_refl _, Nat.le_refl _⟩ he20 oZo.2.1 rfl rfl (Nat.le_of_ble_eq_true rfl) dZo_squeeze_22 ?_
          show X F G B _ 7 (r9.2) _ _ _ _ _ [.int (r9.1), .int (x3)]
          have hq := o_bind hR
          clear hR
          obtain ⟨r10, hr10, hR⟩ := hq
          refine X_callSk (As := [.int (x3), .int (r9.1)]) (rest := []) C (Zo_sum_c hr10) wZo_40 ⟨by decide, by decide⟩ ⟨Nat.le_refl _, Nat.le_refl _⟩ rfl rfl (Nat.le_of_ble_eq_true rfl) dZo_squeeze_25 ?_
          show X F G B _ 7 (r10.2) _ _ _ _ _ [.int (r10.1)]
          refine X_iconst (v := 1) C dZo_squeeze_28 rfl ?_
          refine X_icmp_ge (tgt := 38) C dZo_squeeze_29 (by decide) (fun c11 => ?_) (fun c11 => ?_)
          · rw [if_pos c11] at hR
            refine X_iconst (v := 0) C dZo_squeeze_38 rfl ?_
            refine X_istore (lv' := [(4, .int ((0 : Int32))), (0, .ref (o)), (1, .int (x1)), (2, .int (x2)), (3, .int (x3))]) C dZo_squeeze_39 (by decide) rfl ?_
            refine X_sub (lv' := [(0, .ref (o)), (1, .int (x1)), (2, .int (x2)), (3, .int (x3)), (4, .int ((0 : Int32)))]) [1, 2, 3, 4, 0] rfl ?_
            exact (ih (x1) (x2) (x3) ((0 : Int32)) 0 0 _ _).2.1 hR
          · rw [if_neg c11] at hR
            refine X_aload_n C dZo_squeeze_32 rfl ?_
            refine X_iconst (v := 1) C dZo_squeeze_33 rfl ?_
            have hq := o_bind hR
            clear hR
            obtain ⟨h12, hh13, hR⟩ := hq
            obtain ⟨fs14, he15, hl16, e17⟩ := pf_e hh13
            refine X_put (k := 2) C oZo fwZo_26 rfl he15 rfl rfl hl16 dZo_squeeze_34 ?_
            rw [← e17]
            rw [← Option.some.inj hR]
            exact X_vret C hr (Nat.le_refl _) (Nat.le_refl _) dZo_squeeze_37 ⟨rfl, rfl, rfl⟩
        · rw [if_neg c8] at hR
          rw [← Option.some.inj hR]
          exact X_vret C hr (Nat.le_refl _) (Nat.le_refl _) dZo_squeeze_17 ⟨rfl, rfl, rfl⟩
    · rw [Zo_squeeze_e41] at hR
      unfold Zo_squeeze_t41 at hR
      refine X_iload C dZo_squeeze_41 rfl ?_
      refine X_aload_n C dZo_squeeze_43 rfl ?_
      have hq := o_bind hR
      clear hR
      obtain ⟨u24, hx28, hR⟩ := hq
      obtain ⟨fs25, he26, hv27⟩ := gi_e hx28
      refine X_get (k := 0) C oZo fwZo_9 he26 hv27 dZo_squeeze_44 ?_
      refine X_icmp_ge (tgt := 132) C dZo_squeeze_47 (by decide) (fun c29 => ?_) (fun c29 => ?_)
      · rw [if_pos c29] at hR
        rw [← Option.some.inj hR]
        exact X_vret C hr (Nat.le_refl _) (Nat.le_refl _) dZo_squeeze_132 ⟨rfl, rfl, rfl⟩
      · rw [if_neg c29] at hR
        refine X_aload_n C dZo_squeeze_50 rfl ?_
        refine X_iload C dZo_squeeze_51 rfl ?_
        refine X_iload_n C dZo_squeeze_53 rfl ?_
        have hq := o_if hR
        clear hR
        obtain ⟨k32, hR⟩ := hq
        obtain ⟨fs33, he34⟩ := kc_e k32
        have hq := o_bind hR
        clear hR
        obtain ⟨r30, hr30, hR⟩ := hq
        refine X_callVk (As := [.int (x4), .int (x1)]) (rest := []) C (Zo_at_c hr30) wZo_36 ⟨by decide, by decide⟩ ⟨Nat.le_refl _, Nat.le_refl _⟩ he34 oZo.2.1 rfl rfl (Nat.le_of_ble_eq_true rfl) dZo_squeeze_54 ?_
        show X F G B _ 7 (r30.2) _ _ _ _ _ [.int (r30.1)]
        refine X_iload_n C dZo_squeeze_57 rfl ?_
        have hq := o_bind hR
        clear hR
        obtain ⟨r31, hr31, hR⟩ := hq
        refine X_callSk (As := [.int (r30.1), .int (x3)]) (rest := []) C (Zo_sum_c hr31) wZo_40 ⟨by decide, by decide⟩ ⟨Nat.le_refl _, Nat.le_refl _⟩ rfl rfl (Nat.le_of_ble_eq_true rfl) dZo_squeeze_58 ?_
        show X F G B _ 7 (r31.2) _ _ _ _ _ [.int (r31.1)]
        refine X_istore (lv' := [(5, .int (r31.1)), (0, .ref (o)), (1, .int (x1)), (2, .int (x2)), (3, .int (x3)), (4, .int (x4))]) C dZo_squeeze_61 (by decide) rfl ?_
        refine X_iconst (v := 0) C dZo_squeeze_63 rfl ?_
        refine X_istore (lv' := [(6, .int ((0 : Int32))), (5, .int (r31.1)), (0, .ref (o)), (1, .int (x1)), (2, .int (x2)), (3, .int (x3)), (4, .int (x4))]) C dZo_squeeze_64 (by decide) rfl ?_
        refine X_sub (lv' := [(0, .ref (o)), (1, .int (x1)), (2, .int (x2)), (3, .int (x3)), (4, .int (x4)), (5, .int (r31.1)), (6, .int ((0 : Int32)))]) [2, 3, 4, 5, 6, 1, 0] rfl ?_
        exact (ih (x1) (x2) (x3) (x4) (r31.1) ((0 : Int32)) _ _).2.2 hR
    · rw [Zo_squeeze_e66] at hR
      unfold Zo_squeeze_t66 at hR
      refine X_iload C dZo_squeeze_66 rfl ?_
      refine X_aload_n C dZo_squeeze_68 rfl ?_
      have hq := o_bind hR
      clear hR
      obtain ⟨u35, hx39, hR⟩ := hq
      obtain ⟨fs36, he37, hv38⟩ := gi_e hx39
      refine X_get (k := 0) C oZo fwZo_9 he37 hv38 dZo_squeeze_69 ?_
      refine X_icmp_ge (tgt := 126) C dZo_squeeze_72 (by decide) (fun c40 => ?_) (fun c40 => ?_)
      · rw [if_pos c40] at hR
        refine X_iinc (v := x4 + 1) (lv' := [(4, .int (x4 + 1)), (0, .ref (o)), (1, .int (x1)), (2, .int (x2)), (3, .int (x3)), (5, .int (x5)), (6, .int (x6))]) C dZo_squeeze_126 rfl rfl (by decide) rfl ?_
        refine X_goto (tgt := 41) C dZo_squeeze_129 (by decide) ?_
        refine X_sub (lv' := [(0, .ref (o)), (1, .int (x1)), (2, .int (x2)), (3, .int (x3)), (4, .int (x4 + 1))]) [1, 2, 3, 4, 0] rfl ?_
        exact (ih (x1) (x2) (x3) (x4 + 1) 0 0 _ _).2.1 hR
      · rw [if_neg c40] at hR
        refine X_iload C dZo_squeeze_75 rfl ?_
        refine X_ldc (v := 1000000) C kZo_25 dZo_squeeze_77 ?_
        refine X_icmp_eq (tgt := 126) C dZo_squeeze_79 (by decide) (fun c41 => ?_) (fun c41 => ?_)
        · rw [if_pos c41] at hR
          refine X_iinc (v := x4 + 1) (lv' := [(4, .int (x4 + 1)), (0, .ref (o)), (1, .int (x1)), (2, .int (x2)), (3, .int (x3)), (5, .int (x5)), (6, .int (x6))]) C dZo_squeeze_126 rfl rfl (by decide) rfl ?_
          refine X_goto (tgt := 41) C dZo_squeeze_129 (by decide) ?_
          refine X_sub (lv' := [(0, .ref (o)), (1, .int (x1)), (2, .int (x2)), (3, .int (x3)), (4, .int (x4 + 1))]) [1, 2, 3, 4, 0] rfl ?_
          exact (ih (x1) (x2) (x3) (x4 + 1) 0 0 _ _).2.1 hR
        · rw [if_neg c41] at hR
          refine X_aload_n C dZo_squeeze_82 rfl ?_
          have hq := o_bind hR
          clear hR
          obtain ⟨w42, hx46, hR⟩ := hq
          obtain ⟨fs43, he44, hv45⟩ := gq_e hx46
          refine X_get (k := 1) C oZo fwZo_15 he44 hv45 dZo_squeeze_83 ?_
          refine X_iload C dZo_squeeze_86 rfl ?_
          refine X_aload_n C dZo_squeeze_88 rfl ?_
          have hq := o_bind hR
          clear hR
          obtain ⟨u47, hx51, hR⟩ := hq
          obtain ⟨fs48, he49, hv50⟩ := gi_e hx51
          refine X_get (k := 0) C oZo fwZo_9 he49 hv50 dZo_squeeze_89 ?_
          refine X_imul C dZo_squeeze_92 ?_
          refine X_iload C dZo_squeeze_93 rfl ?_
          refine X_iadd C dZo_squeeze_95 ?_
          refine X_aload_n C dZo_squeeze_96 rfl ?_
          refine X_iload C dZo_squeeze_97 rfl ?_
          refine X_iload C dZo_squeeze_99 rfl ?_
          have hq := o_if hR
          clear hR
          obtain ⟨k66, hR⟩ := hq
          obtain ⟨fs67, he68⟩ := kc_e k66
          have hq := o_bind hR
          clear hR
          obtain ⟨r52, hr52, hR⟩ := hq
          refine X_callVk (As := [.int (x4), .int (x6)]) (rest := [.int (((x4) * (u47)) + (x6)), va_rf (w42)]) C (Zo_at_c hr52) wZo_36 ⟨by decide, by decide⟩ ⟨Nat.le_refl _, Nat.le_refl _⟩ he68 oZo.2.1 rfl rfl (by simp [rf_cat, cat_i, cat_r, cat_l]) dZo_squeeze_101 ?_
          show X F G B _ 7 (r52.2) _ _ _ _ _ [.int (r52.1), .int (((x4) * (u47)) + (x6)), va_rf (w42)]
          refine X_iload C dZo_squeeze_104 rfl ?_
          refine X_aload_n C dZo_squeeze_106 rfl ?_
          refine X_iload_n C dZo_squeeze_107 rfl ?_
          refine X_iload C dZo_squeeze_108 rfl ?_
          have hq := o_if hR
          clear hR
          obtain ⟨k63, hR⟩ := hq
          obtain ⟨fs64, he65⟩ := kc_e k63
          have hq := o_bind hR
          clear hR
          obtain ⟨r53, hr53, hR⟩ := hq
          refine X_callVk (As := [.int (x2), .int (x6)]) (rest := [.int (x5), .int (r52.1), .int (((x4) * (u47)) + (x6)), va_rf (w42)]) C (Zo_at_c hr53) wZo_36 ⟨by decide, by decide⟩ ⟨Nat.le_refl _, Nat.le_refl _⟩ he65 oZo.2.1 rfl rfl (by simp [rf_cat, cat_i, cat_r, cat_l]) dZo_squeeze_110 ?_
          show X F G B _ 7 (r53.2) _ _ _ _ _ [.int (r53.1), .int (x5), .int (r52.1), .int (((x4) * (u47)) + (x6)), va_rf (w42)]
          have hq := o_bind hR
          clear hR
          obtain ⟨r54, hr54, hR⟩ := hq
          refine X_callSk (As := [.int (x5), .int (r53.1)]) (rest := [.int (r52.1), .int (((x4) * (u47)) + (x6)), va_rf (w42)]) C (Zo_sum_c hr54) wZo_40 ⟨by decide, by decide⟩ ⟨Nat.le_refl _, Nat.le_refl _⟩ rfl rfl (by simp [rf_cat, cat_i, cat_r, cat_l]) dZo_squeeze_113 ?_
          show X F G B _ 7 (r54.2) _ _ _ _ _ [.int (r54.1), .int (r52.1), .int (((x4) * (u47)) + (x6)), va_rf (w42)]
          refine X_min C mwZo_43 ⟨by decide, by simp [rf_cat, cat_i, cat_r, cat_l]⟩ ⟨Nat.le_refl _, Nat.le_refl _⟩ dZo_squeeze_116 ?_
          have hq := o_bind hR
          clear hR
          obtain ⟨a55, rfl, hR⟩ := hq
          have hq := o_bind hR
          clear hR
          obtain ⟨h56, hh57, hR⟩ := hq
          obtain ⟨n58, f59, he60, hi61, e62⟩ := pa_e hh57
          refine X_iast C rfl he60 hi61 dZo_squeeze_119 ?_
          rw [← e62]
          refine X_iinc (v := x6 + 1) (lv' := [(6, .int (x6 + 1)), (0, .ref (o)), (1, .int (x1)), (2, .int (x2)), (3, .int (x3)), (4, .int (x4)), (5, .int (x5))]) C dZo_squeeze_120 rfl rfl (by decide) rfl ?_
          refine X_goto (tgt := 66) C dZo_squeeze_123 (by decide) ?_
          refine X_sub (lv' := [(0, .ref (o)), (1, .int (x1)), (2, .int (x2)), (3, .int (x3)), (4, .int (x4)), (5, .int (x5)), (6, .int (x6 + 1))]) [1, 2, 3, 4, 5, 6, 0] rfl ?_
          exact (ih (x1) (x2) (x3) (x4) (x5) (x6 + 1) _ _).2.2 hR
theorem Zo_squeeze_c {l : Launch} {G : xG} {B sz : Nat} {o : Nat} {n : Nat} {x1 : Int32} {x2 : Int32} {x3 : Int32} {h : xH} {R : Int32 × xH} (hR : Zo_squeeze_f n 0 o x1 x2 x3 0 0 0 h = some R) : xCon l yZo_squeeze cZo_squeeze 7 none 1 22 0 0 G B [.ref (o), .int (x1), .int (x2), .int (x3)] h sz (kP none R.2 sz) := xCon.of (by decide) (by exact Nat.le_of_ble_eq_true rfl) (fun F e C hr _ => X_sub (lv' := [(0, .ref (o)), (1, .int (x1)), (2, .int (x2)), (3, .int (x3))]) [0, 1, 2, 3] rfl ((Zo_squeeze_x C hr n x1 x2 x3 0 0 0 h R).1 hR))
def Ya_obey_t0 (f : Nat → Option Nat → Option Nat → Int32 → xH → Option (Int32 × xH)) (n : Nat) (y0 : Option Nat) (y1 : Option Nat) (x2 : Int32) (h : xH) : Option (Int32 × xH) := f 2 (y0) (y1) ((0 : Int32)) h
def Ya_obey_t2 (f : Nat → Option Nat → Option Nat → Int32 → xH → Option (Int32 × xH)) (n : Nat) (y0 : Option Nat) (y1 : Option Nat) (x2 : Int32) (h : xH) : Option (Int32 × xH) := obd y1 (fun a1 => obd (gi h (a1) 7 6) (fun u2 => (if u2 ≤ x2 then some (0, h) else (if (3 : Int32) ≤ x2 then some (0, h) else obd (gq h (a1) 7 4) (fun w9 => obd w9 (fun a14 => obd (ai h (a14) 0 (x2)) (fun u15 => obd (gq h (a1) 7 4) (fun w22 => obd w22 (fun a27 => obd (ai h (a27) 0 (x2)) (fun u28 => obd (gq h (a1) 7 5) (fun w35 => obd w35 (fun a40 => obd (ai h (a40) 0 (x2)) (fun u41 => obd y0 (fun a48 => (if kc h (a48) 1 = true then obd (Zo_squeeze_f n 0 (a48) ((u15) / ((4 : Int32))) ((u28) - (u28) / ((4 : Int32)) * ((4 : Int32))) (u41) 0 0 0 h) (fun r49 => f 2 (some (a48)) (some (a1)) (x2 + 1) r49.2) else none)))))))))))))))
def Ya_obey_f : Nat → Nat → Option Nat → Option Nat → Int32 → xH → Option (Int32 × xH)
  | 0 => fun _ _ _ _ _ => none
  | n + 1 => fun p y0 y1 x2 h => if p = 0 then Ya_obey_t0 (Ya_obey_f n) n y0 y1 x2 h else if p = 2 then Ya_obey_t2 (Ya_obey_f n) n y0 y1 x2 h else none
theorem Ya_obey_e0 (n : Nat) (y0 : Option Nat) (y1 : Option Nat) (x2 : Int32) (h : xH) : Ya_obey_f (n + 1) 0 y0 y1 x2 h = Ya_obey_t0 (Ya_obey_f n) n y0 y1 x2 h := by
  show (if 0 = 0 then Ya_obey_t0 (Ya_obey_f n) n y0 y1 x2 h else if 0 = 2 then Ya_obey_t2 (Ya_obey_f n) n y0 y1 x2 h else none) = _
  rw [if_pos rfl]
theorem Ya_obey_e2 (n : Nat) (y0 : Option Nat) (y1 : Option Nat) (x2 : Int32) (h : xH) : Ya_obey_f (n + 1) 2 y0 y1 x2 h = Ya_obey_t2 (Ya_obey_f n) n y0 y1 x2 h := by
  show (if 2 = 0 then Ya_obey_t0 (Ya_obey_f n) n y0 y1 x2 h else if 2 = 2 then Ya_obey_t2 (Ya_obey_f n) n y0 y1 x2 h else none) = _
  rw [if_neg (by decide), if_pos rfl]
set_option maxRecDepth 100000 in
set_option maxHeartbeats 8000000 in
theorem Ya_obey_x {F : xF} {G : xG} {B sz : Nat} (C : xC F G B cYa_obey RYa 3 2 48 0 0) (hr : (xFM F).sig.returnType = none) : ∀ (n : Nat) (y0 : Option Nat) (y1 : Option Nat) (x2 : Int32) (h : xH) (R : Int32 × xH), (Ya_obey_f n 0 y0 y1 x2 h = some R → X F G B (xZ F G B (kP none R.2 sz) 0 0) 3 h sz 0 0 0 [(0, va_rf (y0)), (1, va_rf (y1))] []) ∧ (Ya_obey_f n 2 y0 y1 x2 h = some R → X F G B (xZ F G B (kP none R.2 sz) 0 0) 3 h sz 0 0 2 [(0, va_rf (y0)), (1, va_rf (y1)), (2, .int (x2))] []) := by
  intro n
  induction n with
  | zero => exact fun _ _ _ _ _ => ⟨(fun hR => nomatch (show (none : Option _) = some _ from hR)), (fun hR => nomatch (show (none : Option _) = some _ from hR))⟩
  | succ n ih =>
    intro y0 y1 x2 h R
    refine ⟨fun hR => ?_, fun hR => ?_⟩
    · rw [Ya_obey_e0] at hR
      unfold Ya_obey_t0 at hR
      refine X_iconst (v := 0) C dYa_obey_0 rfl ?_
      refine X_istore_n (lv' := [(2, .int ((0 : Int32))), (0, va_rf (y0)), (1, va_rf (y1))]) C dYa_obey_1 (by decide) (by simp [rf_cat, cat_i, cat_r, cat_l, rf_n, rf_s] <;> decide) ?_
      refine X_sub (lv' := [(0, va_rf ((y0))), (1, va_rf ((y1))), (2, .int ((0 : Int32)))]) [1, 2, 0] rfl ?_
      exact (ih (y0) (y1) ((0 : Int32)) _ _).2 hR
    · rw [Ya_obey_e2] at hR
      unfold Ya_obey_t2 at hR
      refine X_iload_n C dYa_obey_2 rfl ?_
      refine X_aload_nq C dYa_obey_3 rfl ?_
      have hq := o_bind hR
      clear hR
      obtain ⟨a1, rfl, hR⟩ := hq
      have hq := o_bind hR
      clear hR
      obtain ⟨u2, hx6, hR⟩ := hq
      obtain ⟨fs3, he4, hv5⟩ := gi_e hx6
      refine X_get (k := 6) C oWa fwYa_153 he4 hv5 dYa_obey_4 ?_
      refine X_icmp_ge (tgt := 47) C dYa_obey_7 (by decide) (fun c7 => ?_) (fun c7 => ?_)
      · rw [if_pos c7] at hR
        rw [← Option.some.inj hR]
        exact X_vret C hr (Nat.le_refl _) (Nat.le_refl _) dYa_obey_47 ⟨rfl, rfl, rfl⟩
      · rw [if_neg c7] at hR
        refine X_iload_n C dYa_obey_10 rfl ?_
        refine X_iconst (v := 3) C dYa_obey_11 rfl ?_
        refine X_icmp_ge (tgt := 47) C dYa_obey_12 (by decide) (fun c8 => ?_) (fun c8 => ?_)
        · rw [if_pos c8] at hR
          rw [← Option.some.inj hR]
          exact X_vret C hr (Nat.le_refl _) (Nat.le_refl _) dYa_obey_47 ⟨rfl, rfl, rfl⟩
        · rw [if_neg c8] at hR
          refine X_aload_nq C dYa_obey_15 rfl ?_
          refine X_aload_n C dYa_obey_16 rfl ?_
          have hq := o_bind hR
          clear hR
          obtain ⟨w9, hx13, hR⟩ := hq
          obtain ⟨fs10, he11, hv12⟩ := gq_e hx13
          refine X_get (k := 4) C oWa fwYa_158 he11 hv12 dYa_obey_17 ?_
          refine X_iload_n C dYa_obey_20 rfl ?_
          have hq := o_bind hR
          clear hR
          obtain ⟨a14, rfl, hR⟩ := hq
          have hq := o_bind hR
          clear hR
          obtain ⟨u15, hx16, hR⟩ := hq
          obtain ⟨n17, f18, he19, hi20, e21⟩ := ai_e hx16
          refine X_iald C rfl he19 hi20 dYa_obey_21 ?_
          rw [← e21]
          refine X_iconst (v := 4) C dYa_obey_22 rfl ?_
          refine X_idiv C dYa_obey_23 (by decide) ?_
          refine X_aload_n C dYa_obey_24 rfl ?_
          have hq := o_bind hR
          clear hR
          obtain ⟨w22, hx26, hR⟩ := hq
          obtain ⟨fs23, he24, hv25⟩ := gq_e hx26
          refine X_get (k := 4) C oWa fwYa_158 he24 hv25 dYa_obey_25 ?_
          refine X_iload_n C dYa_obey_28 rfl ?_
          have hq := o_bind hR
          clear hR
          obtain ⟨a27, rfl, hR⟩ := hq
          have hq := o_bind hR
          clear hR
          obtain ⟨u28, hx29, hR⟩ := hq
          obtain ⟨n30, f31, he32, hi33, e34⟩ := ai_e hx29
          refine X_iald C rfl he32 hi33 dYa_obey_29 ?_
          rw [← e34]
          refine X_iconst (v := 4) C dYa_obey_30 rfl ?_
          refine X_irem C dYa_obey_31 (by decide) ?_
          refine X_aload_n C dYa_obey_32 rfl ?_
          have hq := o_bind hR
          clear hR
          obtain ⟨w35, hx39, hR⟩ := hq
          obtain ⟨fs36, he37, hv38⟩ := gq_e hx39
          refine X_get (k := 5) C oWa fwYa_161 he37 hv38 dYa_obey_33 ?_
          refine X_iload_n C dYa_obey_36 rfl ?_
          have hq := o_bind hR
          clear hR
          obtain ⟨a40, rfl, hR⟩ := hq
          have hq := o_bind hR
          clear hR
          obtain ⟨u41, hx42, hR⟩ := hq
          obtain ⟨n43, f44, he45, hi46, e47⟩ := ai_e hx42
          refine X_iald C rfl he45 hi46 dYa_obey_37 ?_
          rw [← e47]
          have hq := o_bind hR
          clear hR
          obtain ⟨a48, rfl, hR⟩ := hq
          have hq := o_if hR
          clear hR
          obtain ⟨k50, hR⟩ := hq
          obtain ⟨fs51, he52⟩ := kc_e k50
          have hq := o_bind hR
          clear hR
          obtain ⟨r49, hr49, hR⟩ := hq
          refine X_callVk (As := [.int ((u15) / ((4 : Int32))), .int ((u28) - (u28) / ((4 : Int32)) * ((4 : Int32))), .int (u41)]) (rest := []) C (Zo_squeeze_c hr49) wYa_229 ⟨by decide, by decide⟩ ⟨Nat.le_refl _, Nat.le_refl _⟩ he52 oZo.2.1 rfl rfl (Nat.le_of_ble_eq_true rfl) dYa_obey_38 ?_
          show X F G B _ 3 (r49.2) _ _ _ _ _ []
          refine X_iinc (v := x2 + 1) (lv' := [(2, .int (x2 + 1)), (0, .ref (a48)), (1, .ref (a1))]) C dYa_obey_41 rfl rfl (by decide) rfl ?_
          refine X_goto (tgt := 2) C dYa_obey_44 (by decide) ?_
          refine X_sub (lv' := [(0, va_rf ((some (a48)))), (1, va_rf ((some (a1)))), (2, .int (x2 + 1))]) [1, 2, 0] rfl ?_
          exact (ih (some (a48)) (some (a1)) (x2 + 1) _ _).2 hR
theorem Ya_obey_c {l : Launch} {G : xG} {B sz : Nat} {n : Nat} {y0 : Option Nat} {y1 : Option Nat} {h : xH} {R : Int32 × xH} (hR : Ya_obey_f n 0 y0 y1 0 h = some R) : xCon l yYa_obey cYa_obey 3 none 2 48 0 0 G B [va_rf (y0), va_rf (y1)] h sz (kP none R.2 sz) := xCon.of (by decide) (by simp [lg_sl, rf_cat, cat_i, cat_r, cat_l]) (fun F e C hr _ => X_sub (lv' := [(0, va_rf (y0)), (1, va_rf (y1))]) [0, 1] (by simp [lv_args, lv_pick, rf_cat, cat_i, cat_r, cat_l]) ((Ya_obey_x C hr n y0 y1 0 h R).1 hR))
def Zo_isSet_f (n : Nat) (x0 : Int32) (x1 : Int32) (h : xH) : Option (Int32 × xH) := (if x1 ≤ 0 then some ((0 : Int32), h) else (if (4 : Int32) ≤ x1 then some ((0 : Int32), h) else (if ((x0) >>> (((x1) - ((1 : Int32))) &&& 31)) &&& ((1 : Int32)) = (1 : Int32) then some ((1 : Int32), h) else some ((0 : Int32), h))))
set_option maxRecDepth 100000 in
set_option maxHeartbeats 8000000 in
theorem Zo_isSet_x {F : xF} {G : xG} {B sz : Nat} (C : xC F G B cZo_isSet RZo 2 0 0 0 0) (hr : (xFM F).sig.returnType = (some .boolean)) {n : Nat} {x0 : Int32} {x1 : Int32} {h : xH} {R : Int32 × xH} (hR : Zo_isSet_f n x0 x1 h = some R) : X F G B (xZ F G B (kP (some (.int R.1)) R.2 sz) 0 0) 2 h sz 0 0 0 [(0, .int (x0)), (1, .int (x1))] [] := by
  unfold Zo_isSet_f at hR
  refine X_iload_n C dZo_isSet_0 rfl ?_
  refine X_if_le (tgt := 24) C dZo_isSet_1 (by decide) (fun c1 => ?_) (fun c1 => ?_)
  · rw [if_pos c1] at hR
    refine X_iconst (v := 0) C dZo_isSet_24 rfl ?_
    rw [← Option.some.inj hR]
    exact X_zret C hr rfl (Nat.le_refl _) (Nat.le_refl _) dZo_isSet_25 ⟨rfl, rfl, rfl⟩
  · rw [if_neg c1] at hR
    refine X_iload_n C dZo_isSet_4 rfl ?_
    refine X_iconst (v := 4) C dZo_isSet_5 rfl ?_
    refine X_icmp_ge (tgt := 24) C dZo_isSet_6 (by decide) (fun c2 => ?_) (fun c2 => ?_)
    · rw [if_pos c2] at hR
      refine X_iconst (v := 0) C dZo_isSet_24 rfl ?_
      rw [← Option.some.inj hR]
      exact X_zret C hr rfl (Nat.le_refl _) (Nat.le_refl _) dZo_isSet_25 ⟨rfl, rfl, rfl⟩
    · rw [if_neg c2] at hR
      refine X_iload_n C dZo_isSet_9 rfl ?_
      refine X_iload_n C dZo_isSet_10 rfl ?_
      refine X_iconst (v := 1) C dZo_isSet_11 rfl ?_
      refine X_isub C dZo_isSet_12 ?_
      refine X_ishr C dZo_isSet_13 ?_
      refine X_iconst (v := 1) C dZo_isSet_14 rfl ?_
      refine X_iand C dZo_isSet_15 ?_
      refine X_iconst (v := 1) C dZo_isSet_16 rfl ?_
      refine X_icmp_ne (tgt := 24) C dZo_isSet_17 (by decide) (fun c3 => ?_) (fun c3 => ?_)
      · rw [if_neg c3] at hR
        refine X_iconst (v := 0) C dZo_isSet_24 rfl ?_
        rw [← Option.some.inj hR]
        exact X_zret C hr rfl (Nat.le_refl _) (Nat.le_refl _) dZo_isSet_25 ⟨rfl, rfl, rfl⟩
      · rw [if_pos c3] at hR
        refine X_iconst (v := 1) C dZo_isSet_20 rfl ?_
        refine X_goto (tgt := 25) C dZo_isSet_21 (by decide) ?_
        rw [← Option.some.inj hR]
        exact X_zret C hr rfl (Nat.le_refl _) (Nat.le_refl _) dZo_isSet_25 ⟨rfl, rfl, rfl⟩
theorem Zo_isSet_c {l : Launch} {G : xG} {B sz : Nat} {n : Nat} {x0 : Int32} {x1 : Int32} {h : xH} {R : Int32 × xH} (hR : Zo_isSet_f n x0 x1 h = some R) : xCon l yZo_isSet cZo_isSet 2 (some .boolean) 0 0 0 0 G B [.int (x0), .int (x1)] h sz (kP (some (.int R.1)) R.2 sz) := xCon.of (by decide) (by exact Nat.le_of_ble_eq_true rfl) (fun F e C hr _ => X_sub (lv' := [(0, .int (x0)), (1, .int (x1))]) [0, 1] rfl (Zo_isSet_x C hr hR))
def Zo_reset_t0 (f : Nat → Int32 → Int32 → Int32 → xH → Option (Int32 × xH)) (n : Nat) (o : Nat) (x1 : Int32) (x2 : Int32) (x3 : Int32) (h : xH) : Option (Int32 × xH) := f 2 (x1) ((1 : Int32)) 0 h
def Zo_reset_t2 (f : Nat → Int32 → Int32 → Int32 → xH → Option (Int32 × xH)) (n : Nat) (o : Nat) (x1 : Int32) (x2 : Int32) (x3 : Int32) (h : xH) : Option (Int32 × xH) := (if (4 : Int32) ≤ x2 then some (0, h) else obd (Zo_isSet_f n (x1) (x2) h) (fun r2 => (if r2.1 = 0 then f 2 (x1) (x2 + 1) 0 r2.2 else f 20 (x1) (x2) ((0 : Int32)) r2.2)))
def Zo_reset_t20 (f : Nat → Int32 → Int32 → Int32 → xH → Option (Int32 × xH)) (n : Nat) (o : Nat) (x1 : Int32) (x2 : Int32) (x3 : Int32) (h : xH) : Option (Int32 × xH) := obd (gi h (o) 1 0) (fun u4 => (if u4 ≤ x3 then f 2 (x1) (x2 + 1) 0 h else obd (Zo_isSet_f n (x1) (x3) h) (fun r10 => obd (gq r10.2 (o) 1 1) (fun w11 => obd (gi r10.2 (o) 1 0) (fun u16 => (if r10.1 = 0 then (if kc r10.2 (o) 1 = true then obd (Zo_at_f n (o) ((0 : Int32)) (x3) r10.2) (fun r22 => obd w11 (fun a23 => obd (pa r22.2 (a23) 0 (((x2) * (u16)) + (x3)) (r22.1)) (fun h24 => obd (gq h24 (o) 1 1) (fun w31 => obd (gi h24 (o) 1 0) (fun u36 => (if r10.1 = 0 then (if kc h24 (o) 1 = true then obd (Zo_at_f n (o) (x3) ((0 : Int32)) h24) (fun r42 => obd w31 (fun a43 => obd (pa r42.2 (a43) 0 (((x3) * (u36)) + (x2)) (r42.1)) (fun h44 => f 20 (x1) (x2) (x3 + 1) h44))) else none) else obd w31 (fun a54 => obd (pa h24 (a54) 0 (((x3) * (u36)) + (x2)) ((1 : Int32))) (fun h55 => f 20 (x1) (x2) (x3 + 1) h55)))))))) else none) else obd w11 (fun a65 => obd (pa r10.2 (a65) 0 (((x2) * (u16)) + (x3)) ((1 : Int32))) (fun h66 => obd (gq h66 (o) 1 1) (fun w73 => obd (gi h66 (o) 1 0) (fun u78 => (if r10.1 = 0 then (if kc h66 (o) 1 = true then obd (Zo_at_f n (o) (x3) ((0 : Int32)) h66) (fun r84 => obd w73 (fun a85 => obd (pa r84.2 (a85) 0 (((x3) * (u78)) + (x2)) (r84.1)) (fun h86 => f 20 (x1) (x2) (x3 + 1) h86))) else none) else obd w73 (fun a96 => obd (pa h66 (a96) 0 (((x3) * (u78)) + (x2)) ((1 : Int32))) (fun h97 => f 20 (x1) (x2) (x3 + 1) h97)))))))))))))
def Zo_reset_f : Nat → Nat → Nat → Int32 → Int32 → Int32 → xH → Option (Int32 × xH)
  | 0 => fun _ _ _ _ _ _ => none
  | n + 1 => fun p o x1 x2 x3 h => if p = 0 then Zo_reset_t0 (fun p x1 x2 x3 h => Zo_reset_f n p o x1 x2 x3 h) n o x1 x2 x3 h else if p = 2 then Zo_reset_t2 (fun p x1 x2 x3 h => Zo_reset_f n p o x1 x2 x3 h) n o x1 x2 x3 h else if p = 20 then Zo_reset_t20 (fun p x1 x2 x3 h => Zo_reset_f n p o x1 x2 x3 h) n o x1 x2 x3 h else none
theorem Zo_reset_e0 (n : Nat) (o : Nat) (x1 : Int32) (x2 : Int32) (x3 : Int32) (h : xH) : Zo_reset_f (n + 1) 0 o x1 x2 x3 h = Zo_reset_t0 (fun p x1 x2 x3 h => Zo_reset_f n p o x1 x2 x3 h) n o x1 x2 x3 h := by
  show (if 0 = 0 then Zo_reset_t0 (fun p x1 x2 x3 h => Zo_reset_f n p o x1 x2 x3 h) n o x1 x2 x3 h else if 0 = 2 then Zo_reset_t2 (fun p x1 x2 x3 h => Zo_reset_f n p o x1 x2 x3 h) n o x1 x2 x3 h else if 0 = 20 then Zo_reset_t20 (fun p x1 x2 x3 h => Zo_reset_f n p o x1 x2 x3 h) n o x1 x2 x3 h else none) = _
  rw [if_pos rfl]
theorem Zo_reset_e2 (n : Nat) (o : Nat) (x1 : Int32) (x2 : Int32) (x3 : Int32) (h : xH) : Zo_reset_f (n + 1) 2 o x1 x2 x3 h = Zo_reset_t2 (fun p x1 x2 x3 h => Zo_reset_f n p o x1 x2 x3 h) n o x1 x2 x3 h := by
  show (if 2 = 0 then Zo_reset_t0 (fun p x1 x2 x3 h => Zo_reset_f n p o x1 x2 x3 h) n o x1 x2 x3 h else if 2 = 2 then Zo_reset_t2 (fun p x1 x2 x3 h => Zo_reset_f n p o x1 x2 x3 h) n o x1 x2 x3 h else if 2 = 20 then Zo_reset_t20 (fun p x1 x2 x3 h => Zo_reset_f n p o x1 x2 x3 h) n o x1 x2 x3 h else none) = _
  rw [if_neg (by decide), if_pos rfl]
theorem Zo_reset_e20 (n : Nat) (o : Nat) (x1 : Int32) (x2 : Int32) (x3 : Int32) (h : xH) : Zo_reset_f (n + 1) 20 o x1 x2 x3 h = Zo_reset_t20 (fun p x1 x2 x3 h => Zo_reset_f n p o x1 x2 x3 h) n o x1 x2 x3 h := by
  show (if 20 = 0 then Zo_reset_t0 (fun p x1 x2 x3 h => Zo_reset_f n p o x1 x2 x3 h) n o x1 x2 x3 h else if 20 = 2 then Zo_reset_t2 (fun p x1 x2 x3 h => Zo_reset_f n p o x1 x2 x3 h) n o x1 x2 x3 h else if 20 = 20 then Zo_reset_t20 (fun p x1 x2 x3 h => Zo_reset_f n p o x1 x2 x3 h) n o x1 x2 x3 h else none) = _
  rw [if_neg (by decide), if_neg (by decide), if_pos rfl]
set_option maxRecDepth 100000 in
set_option maxHeartbeats 8000000 in
theorem Zo_reset_x {F : xF} {G : xG} {B sz : Nat} {o : Nat} (C : xC F G B cZo_reset RZo 5 1 22 0 0) (hr : (xFM F).sig.returnType = none) : ∀ (n : Nat) (x1 : Int32) (x2 : Int32) (x3 : Int32) (h : xH) (R : Int32 × xH), (Zo_reset_f n 0 o x1 x2 x3 h = some R → X F G B (xZ F G B (kP none R.2 sz) 0 0) 5 h sz 0 0 0 [(0, .ref (o)), (1, .int (x1))] []) ∧ (Zo_reset_f n 2 o x1 x2 x3 h = some R → X F G B (xZ F G B (kP none R.2 sz) 0 0) 5 h sz 0 0 2 [(0, .ref (o)), (1, .int (x1)), (2, .int (x2))] []) ∧ (Zo_reset_f n 20 o x1 x2 x3 h = some R → X F G B (xZ F G B (kP none R.2 sz) 0 0) 5 h sz 0 0 20 [(0, .ref (o)), (1, .int (x1)), (2, .int (x2)), (3, .int (x3))] []) := by
  intro n
  induction n with
  | zero => exact fun _ _ _ _ _ => ⟨(fun hR => nomatch (show (none : Option _) = some _ from hR)), (fun hR => nomatch (show (none : Option _) = some _ from hR)), (fun hR => nomatch (show (none : Option _) = some _ from hR))⟩
  | succ n ih =>
    intro x1 x2 x3 h R
    refine ⟨fun hR => ?_, fun hR => ?_, fun hR => ?_⟩
    · rw [Zo_reset_e0] at hR
      unfold Zo_reset_t0 at hR
      refine X_iconst (v := 1) C dZo_reset_0 rfl ?_
      refine X_istore_n (lv' := [(2, .int ((1 : Int32))), (0, .ref (o)), (1, .int (x1))]) C dZo_reset_1 (by decide) rfl ?_
      refine X_sub (lv' := [(0, .ref (o)), (1, .int (x1)), (2, .int ((1 : Int32)))]) [1, 2, 0] rfl ?_
      exact (ih (x1) ((1 : Int32)) 0 _ _).2.1 hR
    · rw [Zo_reset_e2] at hR
      unfold Zo_reset_t2 at hR
      refine X_iload_n C dZo_reset_2 rfl ?_
      refine X_iconst (v := 4) C dZo_reset_3 rfl ?_
      refine X_icmp_ge (tgt := 103) C dZo_reset_4 (by decide) (fun c1 => ?_) (fun c1 => ?_)
      · rw [if_pos c1] at hR
        rw [← Option.some.inj hR]
        exact X_vret C hr (Nat.le_refl _) (Nat.le_refl _) dZo_reset_103 ⟨rfl, rfl, rfl⟩
      · rw [if_neg c1] at hR
        refine X_iload_n C dZo_reset_7 rfl ?_
        refine X_iload_n C dZo_reset_8 rfl ?_
        have hq := o_bind hR
        clear hR
        obtain ⟨r2, hr2, hR⟩ := hq
        refine X_callSk (As := [.int (x1), .int (x2)]) (rest := []) C (Zo_isSet_c hr2) wZo_52 ⟨by decide, by decide⟩ ⟨Nat.le_refl _, Nat.le_refl _⟩ rfl rfl (Nat.le_of_ble_eq_true rfl) dZo_reset_9 ?_
        show X F G B _ 5 (r2.2) _ _ _ _ _ [.int (r2.1)]
        refine X_if_ne (tgt := 18) C dZo_reset_12 (by decide) (fun c3 => ?_) (fun c3 => ?_)
        · rw [if_neg c3] at hR
          refine X_iconst (v := 0) C dZo_reset_18 rfl ?_
          refine X_istore_n (lv' := [(3, .int ((0 : Int32))), (0, .ref (o)), (1, .int (x1)), (2, .int (x2))]) C dZo_reset_19 (by decide) rfl ?_
          refine X_sub (lv' := [(0, .ref (o)), (1, .int (x1)), (2, .int (x2)), (3, .int ((0 : Int32)))]) [1, 2, 3, 0] rfl ?_
          exact (ih (x1) (x2) ((0 : Int32)) _ _).2.2 hR
        · rw [if_pos c3] at hR
          refine X_goto (tgt := 97) C dZo_reset_15 (by decide) ?_
          refine X_iinc (v := x2 + 1) (lv' := [(2, .int (x2 + 1)), (0, .ref (o)), (1, .int (x1))]) C dZo_reset_97 rfl rfl (by decide) rfl ?_
          refine X_goto (tgt := 2) C dZo_reset_100 (by decide) ?_
          refine X_sub (lv' := [(0, .ref (o)), (1, .int (x1)), (2, .int (x2 + 1))]) [1, 2, 0] rfl ?_
          exact (ih (x1) (x2 + 1) 0 _ _).2.1 hR
    · rw [Zo_reset_e20] at hR
      unfold Zo_reset_t20 at hR
      refine X_iload_n C dZo_reset_20 rfl ?_
      refine X_aload_n C dZo_reset_21 rfl ?_
      have hq := o_bind hR
      clear hR
      obtain ⟨u4, hx8, hR⟩ := hq
      obtain ⟨fs5, he6, hv7⟩ := gi_e hx8
      refine X_get (k := 0) C oZo fwZo_9 he6 hv7 dZo_reset_22 ?_
      refine X_icmp_ge (tgt := 97) C dZo_reset_25 (by decide) (fun c9 => ?_) (fun c9 => ?_)
      · rw [if_pos c9] at hR
        refine X_iinc (v := x2 + 1) (lv' := [(2, .int (x2 + 1)), (0, .ref (o)), (1, .int (x1)), (3, .int (x3))]) C dZo_reset_97 rfl rfl (by decide) rfl ?_
        refine X_goto (tgt := 2) C dZo_reset_100 (by decide) ?_
        refine X_sub (lv' := [(0, .ref (o)), (1, .int (x1)), (2, .int (x2 + 1))]) [1, 2, 0] rfl ?_
        exact (ih (x1) (x2 + 1) 0 _ _).2.1 hR
      · rw [if_neg c9] at hR
        refine X_iload_n C dZo_reset_28 rfl ?_
        refine X_iload_n C dZo_reset_29 rfl ?_
        have hq := o_bind hR
        clear hR
        obtain ⟨r10, hr10, hR⟩ := hq
        refine X_callSk (As := [.int (x1), .int (x3)]) (rest := []) C (Zo_isSet_c hr10) wZo_52 ⟨by decide, by decide⟩ ⟨Nat.le_refl _, Nat.le_refl _⟩ rfl rfl (Nat.le_of_ble_eq_true rfl) dZo_reset_30 ?_
        show X F G B _ 5 (r10.2) _ _ _ _ _ [.int (r10.1)]
        refine X_istore (lv' := [(4, .int (r10.1)), (0, .ref (o)), (1, .int (x1)), (2, .int (x2)), (3, .int (x3))]) C dZo_reset_33 (by decide) rfl ?_
        refine X_aload_n C dZo_reset_35 rfl ?_
        have hq := o_bind hR
        clear hR
        obtain ⟨w11, hx15, hR⟩ := hq
        obtain ⟨fs12, he13, hv14⟩ := gq_e hx15
        refine X_get (k := 1) C oZo fwZo_15 he13 hv14 dZo_reset_36 ?_
        refine X_iload_n C dZo_reset_39 rfl ?_
        refine X_aload_n C dZo_reset_40 rfl ?_
        have hq := o_bind hR
        clear hR
        obtain ⟨u16, hx20, hR⟩ := hq
        obtain ⟨fs17, he18, hv19⟩ := gi_e hx20
        refine X_get (k := 0) C oZo fwZo_9 he18 hv19 dZo_reset_41 ?_
        refine X_imul C dZo_reset_44 ?_
        refine X_iload_n C dZo_reset_45 rfl ?_
        refine X_iadd C dZo_reset_46 ?_
        refine X_iload C dZo_reset_47 rfl ?_
        refine X_if_eq (tgt := 56) C dZo_reset_49 (by decide) (fun c21 => ?_) (fun c21 => ?_)
        · rw [if_pos c21] at hR
          refine X_aload_n C dZo_reset_56 rfl ?_
          refine X_iconst (v := 0) C dZo_reset_57 rfl ?_
          refine X_iload_n C dZo_reset_58 rfl ?_
          have hq := o_if hR
          clear hR
          obtain ⟨k62, hR⟩ := hq
          obtain ⟨fs63, he64⟩ := kc_e k62
          have hq := o_bind hR
          clear hR
          obtain ⟨r22, hr22, hR⟩ := hq
          refine X_callVk (As := [.int ((0 : Int32)), .int (x3)]) (rest := [.int (((x2) * (u16)) + (x3)), va_rf (w11)]) C (Zo_at_c hr22) wZo_36 ⟨by decide, by decide⟩ ⟨Nat.le_refl _, Nat.le_refl _⟩ he64 oZo.2.1 rfl rfl (by simp [rf_cat, cat_i, cat_r, cat_l]) dZo_reset_59 ?_
          show X F G B _ 5 (r22.2) _ _ _ _ _ [.int (r22.1), .int (((x2) * (u16)) + (x3)), va_rf (w11)]
          have hq := o_bind hR
          clear hR
          obtain ⟨a23, rfl, hR⟩ := hq
          have hq := o_bind hR
          clear hR
          obtain ⟨h24, hh25, hR⟩ := hq
          obtain ⟨n26, f27, he28, hi29, e30⟩ := pa_e hh25
          refine X_iast C rfl he28 hi29 dZo_reset_62 ?_
          rw [← e30]
          refine X_aload_n C dZo_reset_63 rfl ?_
          have hq := o_bind hR
          clear hR
          obtain ⟨w31, hx35, hR⟩ := hq
          obtain ⟨fs32, he33, hv34⟩ := gq_e hx35
          refine X_get (k := 1) C oZo fwZo_15 he33 hv34 dZo_reset_64 ?_
          refine X_iload_n C dZo_reset_67 rfl ?_
          refine X_aload_n C dZo_reset_68 rfl ?_
          have hq := o_bind hR
          clear hR
          obtain ⟨u36, hx40, hR⟩ := hq
          obtain ⟨fs37, he38, hv39⟩ := gi_e hx40
          refine X_get (k := 0) C oZo fwZo_9 he38 hv39 dZo_reset_69 ?_
          refine X_imul C dZo_reset_72 ?_
          refine X_iload_n C dZo_reset_73 rfl ?_
          refine X_iadd C dZo_reset_74 ?_
          refine X_iload C dZo_reset_75 rfl ?_
          refine X_if_eq (tgt := 84) C dZo_reset_77 (by decide) (fun c41 => ?_) (fun c41 => ?_)
          · rw [if_pos c41] at hR
            refine X_aload_n C dZo_reset_84 rfl ?_
            refine X_iload_n C dZo_reset_85 rfl ?_
            refine X_iconst (v := 0) C dZo_reset_86 rfl ?_
            have hq := o_if hR
            clear hR
            obtain ⟨k51, hR⟩ := hq
            obtain ⟨fs52, he53⟩ := kc_e k51
            have hq := o_bind hR
            clear hR
            obtain ⟨r42, hr42, hR⟩ := hq
            refine X_callVk (As := [.int (x3), .int ((0 : Int32))]) (rest := [.int (((x3) * (u36)) + (x2)), va_rf (w31)]) C (Zo_at_c hr42) wZo_36 ⟨by decide, by decide⟩ ⟨Nat.le_refl _, Nat.le_refl _⟩ he53 oZo.2.1 rfl rfl (by simp [rf_cat, cat_i, cat_r, cat_l]) dZo_reset_87 ?_
            show X F G B _ 5 (r42.2) _ _ _ _ _ [.int (r42.1), .int (((x3) * (u36)) + (x2)), va_rf (w31)]
            have hq := o_bind hR
            clear hR
            obtain ⟨a43, rfl, hR⟩ := hq
            have hq := o_bind hR
            clear hR
            obtain ⟨h44, hh45, hR⟩ := hq
            obtain ⟨n46, f47, he48, hi49, e50⟩ := pa_e hh45
            refine X_iast C rfl he48 hi49 dZo_reset_90 ?_
            rw [← e50]
            refine X_iinc (v := x3 + 1) (lv' := [(3, .int (x3 + 1)), (4, .int (r10.1)), (0, .ref (o)), (1, .int (x1)), (2, .int (x2))]) C dZo_reset_91 rfl rfl (by decide) rfl ?_
            refine X_goto (tgt := 20) C dZo_reset_94 (by decide) ?_
            refine X_sub (lv' := [(0, .ref (o)), (1, .int (x1)), (2, .int (x2)), (3, .int (x3 + 1))]) [2, 3, 4, 0] rfl ?_
            exact (ih (x1) (x2) (x3 + 1) _ _).2.2 hR
          · rw [if_neg c41] at hR
            refine X_iconst (v := 1) C dZo_reset_80 rfl ?_
            refine X_goto (tgt := 90) C dZo_reset_81 (by decide) ?_
            have hq := o_bind hR
            clear hR
            obtain ⟨a54, rfl, hR⟩ := hq
            have hq := o_bind hR
            clear hR
            obtain ⟨h55, hh56, hR⟩ := hq
            obtain ⟨n57, f58, he59, hi60, e61⟩ := pa_e hh56
            refine X_iast C rfl he59 hi60 dZo_reset_90 ?_
            rw [← e61]
            refine X_iinc (v := x3 + 1) (lv' := [(3, .int (x3 + 1)), (4, .int (r10.1)), (0, .ref (o)), (1, .int (x1)), (2, .int (x2))]) C dZo_reset_91 rfl rfl (by decide) rfl ?_
            refine X_goto (tgt := 20) C dZo_reset_94 (by decide) ?_
            refine X_sub (lv' := [(0, .ref (o)), (1, .int (x1)), (2, .int (x2)), (3, .int (x3 + 1))]) [2, 3, 4, 0] rfl ?_
            exact (ih (x1) (x2) (x3 + 1) _ _).2.2 hR
        · rw [if_neg c21] at hR
          refine X_iconst (v := 1) C dZo_reset_52 rfl ?_
          refine X_goto (tgt := 62) C dZo_reset_53 (by decide) ?_
          have hq := o_bind hR
          clear hR
          obtain ⟨a65, rfl, hR⟩ := hq
          have hq := o_bind hR
          clear hR
          obtain ⟨h66, hh67, hR⟩ := hq
          obtain ⟨n68, f69, he70, hi71, e72⟩ := pa_e hh67
          refine X_iast C rfl he70 hi71 dZo_reset_62 ?_
          rw [← e72]
          refine X_aload_n C dZo_reset_63 rfl ?_
          have hq := o_bind hR
          clear hR
          obtain ⟨w73, hx77, hR⟩ := hq
          obtain ⟨fs74, he75, hv76⟩ := gq_e hx77
          refine X_get (k := 1) C oZo fwZo_15 he75 hv76 dZo_reset_64 ?_
          refine X_iload_n C dZo_reset_67 rfl ?_
          refine X_aload_n C dZo_reset_68 rfl ?_
          have hq := o_bind hR
          clear hR
          obtain ⟨u78, hx82, hR⟩ := hq
          obtain ⟨fs79, he80, hv81⟩ := gi_e hx82
          refine X_get (k := 0) C oZo fwZo_9 he80 hv81 dZo_reset_69 ?_
          refine X_imul C dZo_reset_72 ?_
          refine X_iload_n C dZo_reset_73 rfl ?_
          refine X_iadd C dZo_reset_74 ?_
          refine X_iload C dZo_reset_75 rfl ?_
          refine X_if_eq (tgt := 84) C dZo_reset_77 (by decide) (fun c83 => ?_) (fun c83 => ?_)
          · rw [if_pos c83] at hR
            refine X_aload_n C dZo_reset_84 rfl ?_
            refine X_iload_n C dZo_reset_85 rfl ?_
            refine X_iconst (v := 0) C dZo_reset_86 rfl ?_
            have hq := o_if hR
            clear hR
            obtain ⟨k93, hR⟩ := hq
            obtain ⟨fs94, he95⟩ := kc_e k93
            have hq := o_bind hR
            clear hR
            obtain ⟨r84, hr84, hR⟩ := hq
            refine X_callVk (As := [.int (x3), .int ((0 : Int32))]) (rest := [.int (((x3) * (u78)) + (x2)), va_rf (w73)]) C (Zo_at_c hr84) wZo_36 ⟨by decide, by decide⟩ ⟨Nat.le_refl _, Nat.le_refl _⟩ he95 oZo.2.1 rfl rfl (by simp [rf_cat, cat_i, cat_r, cat_l]) dZo_reset_87 ?_
            show X F G B _ 5 (r84.2) _ _ _ _ _ [.int (r84.1), .int (((x3) * (u78)) + (x2)), va_rf (w73)]
            have hq := o_bind hR
            clear hR
            obtain ⟨a85, rfl, hR⟩ := hq
            have hq := o_bind hR
            clear hR
            obtain ⟨h86, hh87, hR⟩ := hq
            obtain ⟨n88, f89, he90, hi91, e92⟩ := pa_e hh87
            refine X_iast C rfl he90 hi91 dZo_reset_90 ?_
            rw [← e92]
            refine X_iinc (v := x3 + 1) (lv' := [(3, .int (x3 + 1)), (4, .int (r10.1)), (0, .ref (o)), (1, .int (x1)), (2, .int (x2))]) C dZo_reset_91 rfl rfl (by decide) rfl ?_
            refine X_goto (tgt := 20) C dZo_reset_94 (by decide) ?_
            refine X_sub (lv' := [(0, .ref (o)), (1, .int (x1)), (2, .int (x2)), (3, .int (x3 + 1))]) [2, 3, 4, 0] rfl ?_
            exact (ih (x1) (x2) (x3 + 1) _ _).2.2 hR
          · rw [if_neg c83] at hR
            refine X_iconst (v := 1) C dZo_reset_80 rfl ?_
            refine X_goto (tgt := 90) C dZo_reset_81 (by decide) ?_
            have hq := o_bind hR
            clear hR
            obtain ⟨a96, rfl, hR⟩ := hq
            have hq := o_bind hR
            clear hR
            obtain ⟨h97, hh98, hR⟩ := hq
            obtain ⟨n99, f100, he101, hi102, e103⟩ := pa_e hh98
            refine X_iast C rfl he101 hi102 dZo_reset_90 ?_
            rw [← e103]
            refine X_iinc (v := x3 + 1) (lv' := [(3, .int (x3 + 1)), (4, .int (r10.1)), (0, .ref (o)), (1, .int (x1)), (2, .int (x2))]) C dZo_reset_91 rfl rfl (by decide) rfl ?_
            refine X_goto (tgt := 20) C dZo_reset_94 (by decide) ?_
            refine X_sub (lv' := [(0, .ref (o)), (1, .int (x1)), (2, .int (x2)), (3, .int (x3 + 1))]) [2, 3, 4, 0] rfl ?_
            exact (ih (x1) (x2) (x3 + 1) _ _).2.2 hR
theorem Zo_reset_c {l : Launch} {G : xG} {B sz : Nat} {o : Nat} {n : Nat} {x1 : Int32} {h : xH} {R : Int32 × xH} (hR : Zo_reset_f n 0 o x1 0 0 h = some R) : xCon l yZo_reset cZo_reset 5 none 1 22 0 0 G B [.ref (o), .int (x1)] h sz (kP none R.2 sz) := xCon.of (by decide) (by exact Nat.le_of_ble_eq_true rfl) (fun F e C hr _ => X_sub (lv' := [(0, .ref (o)), (1, .int (x1))]) [0, 1] rfl ((Zo_reset_x C hr n x1 0 0 h R).1 hR))
def Ya_confine_t0 (f : Nat → Option Nat → Int32 → Option Nat → Int32 → xH → Option (Int32 × xH)) (n : Nat) (o : Nat) (y1 : Option Nat) (x2 : Int32) (y3 : Option Nat) (x4 : Int32) (h : xH) : Option (Int32 × xH) := f 2 (y1) ((0 : Int32)) none 0 h
def Ya_confine_t2 (f : Nat → Option Nat → Int32 → Option Nat → Int32 → xH → Option (Int32 × xH)) (n : Nat) (o : Nat) (y1 : Option Nat) (x2 : Int32) (y3 : Option Nat) (x4 : Int32) (h : xH) : Option (Int32 × xH) := obd (gi h (o) 3 1) (fun u1 => (if u1 ≤ x2 then some (0, h) else obd (gq h (o) 3 10) (fun w7 => obd w7 (fun a12 => obd (ai h (a12) 0 (x2)) (fun u13 => (if kc h (o) 3 = true then obd (Ya_placeAt_f n (o) (x2) (u13) h) (fun r20 => bnd (r20.1) (fun w21 => f 25 (y1) (x2) (w21) ((0 : Int32)) r20.2)) else none))))))
def Ya_confine_t25 (f : Nat → Option Nat → Int32 → Option Nat → Int32 → xH → Option (Int32 × xH)) (n : Nat) (o : Nat) (y1 : Option Nat) (x2 : Int32) (y3 : Option Nat) (x4 : Int32) (h : xH) : Option (Int32 × xH) := oel (y3) (f 2 (y1) (x2 + 1) none 0 h) (fun a26 => obd (gi h (a26) 6 2) (fun u28 => (if u28 ≤ x4 then f 2 (y1) (x2 + 1) none 0 h else (if (2 : Int32) ≤ x4 then f 2 (y1) (x2 + 1) none 0 h else obd (gq h (a26) 6 0) (fun w35 => obd w35 (fun a40 => obd (ai h (a40) 0 (x4)) (fun u41 => obd (gq h (a26) 6 1) (fun w48 => obd w48 (fun a53 => obd (ai h (a53) 0 (x4)) (fun u54 => obd y1 (fun a61 => (if kc h (a61) 1 = true then obd (Zo_squeeze_f n 0 (a61) (u41) ((0 : Int32)) (u54) 0 0 0 h) (fun r62 => f 25 (some (a61)) (x2) (some (a26)) (x4 + 1) r62.2) else none))))))))))))
def Ya_confine_f : Nat → Nat → Nat → Option Nat → Int32 → Option Nat → Int32 → xH → Option (Int32 × xH)
  | 0 => fun _ _ _ _ _ _ _ => none
  | n + 1 => fun p o y1 x2 y3 x4 h => if p = 0 then Ya_confine_t0 (fun p y1 x2 y3 x4 h => Ya_confine_f n p o y1 x2 y3 x4 h) n o y1 x2 y3 x4 h else if p = 2 then Ya_confine_t2 (fun p y1 x2 y3 x4 h => Ya_confine_f n p o y1 x2 y3 x4 h) n o y1 x2 y3 x4 h else if p = 25 then Ya_confine_t25 (fun p y1 x2 y3 x4 h => Ya_confine_f n p o y1 x2 y3 x4 h) n o y1 x2 y3 x4 h else none
theorem Ya_confine_e0 (n : Nat) (o : Nat) (y1 : Option Nat) (x2 : Int32) (y3 : Option Nat) (x4 : Int32) (h : xH) : Ya_confine_f (n + 1) 0 o y1 x2 y3 x4 h = Ya_confine_t0 (fun p y1 x2 y3 x4 h => Ya_confine_f n p o y1 x2 y3 x4 h) n o y1 x2 y3 x4 h := by
  show (if 0 = 0 then Ya_confine_t0 (fun p y1 x2 y3 x4 h => Ya_confine_f n p o y1 x2 y3 x4 h) n o y1 x2 y3 x4 h else if 0 = 2 then Ya_confine_t2 (fun p y1 x2 y3 x4 h => Ya_confine_f n p o y1 x2 y3 x4 h) n o y1 x2 y3 x4 h else if 0 = 25 then Ya_confine_t25 (fun p y1 x2 y3 x4 h => Ya_confine_f n p o y1 x2 y3 x4 h) n o y1 x2 y3 x4 h else none) = _
  rw [if_pos rfl]
theorem Ya_confine_e2 (n : Nat) (o : Nat) (y1 : Option Nat) (x2 : Int32) (y3 : Option Nat) (x4 : Int32) (h : xH) : Ya_confine_f (n + 1) 2 o y1 x2 y3 x4 h = Ya_confine_t2 (fun p y1 x2 y3 x4 h => Ya_confine_f n p o y1 x2 y3 x4 h) n o y1 x2 y3 x4 h := by
  show (if 2 = 0 then Ya_confine_t0 (fun p y1 x2 y3 x4 h => Ya_confine_f n p o y1 x2 y3 x4 h) n o y1 x2 y3 x4 h else if 2 = 2 then Ya_confine_t2 (fun p y1 x2 y3 x4 h => Ya_confine_f n p o y1 x2 y3 x4 h) n o y1 x2 y3 x4 h else if 2 = 25 then Ya_confine_t25 (fun p y1 x2 y3 x4 h => Ya_confine_f n p o y1 x2 y3 x4 h) n o y1 x2 y3 x4 h else none) = _
  rw [if_neg (by decide), if_pos rfl]
theorem Ya_confine_e25 (n : Nat) (o : Nat) (y1 : Option Nat) (x2 : Int32) (y3 : Option Nat) (x4 : Int32) (h : xH) : Ya_confine_f (n + 1) 25 o y1 x2 y3 x4 h = Ya_confine_t25 (fun p y1 x2 y3 x4 h => Ya_confine_f n p o y1 x2 y3 x4 h) n o y1 x2 y3 x4 h := by
  show (if 25 = 0 then Ya_confine_t0 (fun p y1 x2 y3 x4 h => Ya_confine_f n p o y1 x2 y3 x4 h) n o y1 x2 y3 x4 h else if 25 = 2 then Ya_confine_t2 (fun p y1 x2 y3 x4 h => Ya_confine_f n p o y1 x2 y3 x4 h) n o y1 x2 y3 x4 h else if 25 = 25 then Ya_confine_t25 (fun p y1 x2 y3 x4 h => Ya_confine_f n p o y1 x2 y3 x4 h) n o y1 x2 y3 x4 h else none) = _
  rw [if_neg (by decide), if_neg (by decide), if_pos rfl]
set_option maxRecDepth 100000 in
set_option maxHeartbeats 8000000 in
theorem Ya_confine_x {F : xF} {G : xG} {B sz : Nat} {o : Nat} (C : xC F G B cYa_confine RYa 5 2 48 0 0) (hr : (xFM F).sig.returnType = none) : ∀ (n : Nat) (y1 : Option Nat) (x2 : Int32) (y3 : Option Nat) (x4 : Int32) (h : xH) (R : Int32 × xH), (Ya_confine_f n 0 o y1 x2 y3 x4 h = some R → X F G B (xZ F G B (kP none R.2 sz) 0 0) 5 h sz 0 0 0 [(0, .ref (o)), (1, va_rf (y1))] []) ∧ (Ya_confine_f n 2 o y1 x2 y3 x4 h = some R → X F G B (xZ F G B (kP none R.2 sz) 0 0) 5 h sz 0 0 2 [(0, .ref (o)), (1, va_rf (y1)), (2, .int (x2))] []) ∧ (Ya_confine_f n 25 o y1 x2 y3 x4 h = some R → X F G B (xZ F G B (kP none R.2 sz) 0 0) 5 h sz 0 0 25 [(0, .ref (o)), (1, va_rf (y1)), (2, .int (x2)), (3, va_rf (y3)), (4, .int (x4))] []) := by
  intro n
  induction n with
  | zero => exact fun _ _ _ _ _ _ => ⟨(fun hR => nomatch (show (none : Option _) = some _ from hR)), (fun hR => nomatch (show (none : Option _) = some _ from hR)), (fun hR => nomatch (show (none : Option _) = some _ from hR))⟩
  | succ n ih =>
    intro y1 x2 y3 x4 h R
    refine ⟨fun hR => ?_, fun hR => ?_, fun hR => ?_⟩
    · rw [Ya_confine_e0] at hR
      unfold Ya_confine_t0 at hR
      refine X_iconst (v := 0) C dYa_confine_0 rfl ?_
      refine X_istore_n (lv' := [(2, .int ((0 : Int32))), (0, .ref (o)), (1, va_rf (y1))]) C dYa_confine_1 (by decide) (by simp [rf_cat, cat_i, cat_r, cat_l, rf_n, rf_s] <;> decide) ?_
      refine X_sub (lv' := [(0, .ref (o)), (1, va_rf ((y1))), (2, .int ((0 : Int32)))]) [1, 2, 0] rfl ?_
      exact (ih (y1) ((0 : Int32)) none 0 _ _).2.1 hR
    · rw [Ya_confine_e2] at hR
      unfold Ya_confine_t2 at hR
      refine X_iload_n C dYa_confine_2 rfl ?_
      refine X_aload_n C dYa_confine_3 rfl ?_
      have hq := o_bind hR
      clear hR
      obtain ⟨u1, hx5, hR⟩ := hq
      obtain ⟨fs2, he3, hv4⟩ := gi_e hx5
      refine X_get (k := 1) C oYa fwYa_43 he3 hv4 dYa_confine_4 ?_
      refine X_icmp_ge (tgt := 75) C dYa_confine_7 (by decide) (fun c6 => ?_) (fun c6 => ?_)
      · rw [if_pos c6] at hR
        rw [← Option.some.inj hR]
        exact X_vret C hr (Nat.le_refl _) (Nat.le_refl _) dYa_confine_75 ⟨rfl, rfl, rfl⟩
      · rw [if_neg c6] at hR
        refine X_aload_n C dYa_confine_10 rfl ?_
        refine X_iload_n C dYa_confine_11 rfl ?_
        refine X_aload_n C dYa_confine_12 rfl ?_
        have hq := o_bind hR
        clear hR
        obtain ⟨w7, hx11, hR⟩ := hq
        obtain ⟨fs8, he9, hv10⟩ := gq_e hx11
        refine X_get (k := 10) C oYa fwYa_31 he9 hv10 dYa_confine_13 ?_
        refine X_iload_n C dYa_confine_16 rfl ?_
        have hq := o_bind hR
        clear hR
        obtain ⟨a12, rfl, hR⟩ := hq
        have hq := o_bind hR
        clear hR
        obtain ⟨u13, hx14, hR⟩ := hq
        obtain ⟨n15, f16, he17, hi18, e19⟩ := ai_e hx14
        refine X_iald C rfl he17 hi18 dYa_confine_17 ?_
        rw [← e19]
        have hq := o_if hR
        clear hR
        obtain ⟨k23, hR⟩ := hq
        obtain ⟨fs24, he25⟩ := kc_e k23
        have hq := o_bind hR
        clear hR
        obtain ⟨r20, hr20, hR⟩ := hq
        refine X_callVk (As := [.int (x2), .int (u13)]) (rest := []) C (Ya_placeAt_c hr20) wYa_68 ⟨by decide, by decide⟩ ⟨Nat.le_refl _, Nat.le_refl _⟩ he25 oYa.2.1 rfl rfl (Nat.le_of_ble_eq_true rfl) dYa_confine_18 ?_
        show X F G B _ 5 (r20.2) _ _ _ _ _ [va_rf (r20.1)]
        have hq := b_bnd hR
        clear hR
        obtain ⟨w21, e22, hR⟩ := hq
        rw [← e22]
        refine X_astore_nq (lv' := [(3, va_rf (w21)), (0, .ref (o)), (1, va_rf (y1)), (2, .int (x2))]) C dYa_confine_21 (by decide) (by simp [rf_cat, cat_i, cat_r, cat_l, rf_n, rf_s] <;> decide) ?_
        refine X_iconst (v := 0) C dYa_confine_22 rfl ?_
        refine X_istore (lv' := [(4, .int ((0 : Int32))), (3, va_rf (w21)), (0, .ref (o)), (1, va_rf (y1)), (2, .int (x2))]) C dYa_confine_23 (by decide) (by simp [rf_cat, cat_i, cat_r, cat_l, rf_n, rf_s] <;> decide) ?_
        refine X_sub (lv' := [(0, .ref (o)), (1, va_rf ((y1))), (2, .int (x2)), (3, va_rf ((w21))), (4, .int ((0 : Int32)))]) [2, 3, 4, 1, 0] rfl ?_
        exact (ih (y1) (x2) (w21) ((0 : Int32)) _ _).2.2 hR
    · rw [Ya_confine_e25] at hR
      unfold Ya_confine_t25 at hR
      refine X_aload_nq C dYa_confine_25 rfl ?_
      refine X_ifnullq (tgt := 69) C dYa_confine_26 (by decide) (fun e27 => ?_) (fun a26 e27 => ?_)
      · subst e27
        rw [oel_n] at hR
        refine X_iinc (v := x2 + 1) (lv' := [(2, .int (x2 + 1)), (0, .ref (o)), (1, va_rf (y1)), (3, .null), (4, .int (x4))]) C dYa_confine_69 rfl rfl (by decide) (by simp [rf_cat, cat_i, cat_r, cat_l, rf_n, rf_s] <;> decide) ?_
        refine X_goto (tgt := 2) C dYa_confine_72 (by decide) ?_
        refine X_sub (lv' := [(0, .ref (o)), (1, va_rf ((y1))), (2, .int (x2 + 1))]) [1, 2, 0] rfl ?_
        exact (ih (y1) (x2 + 1) none 0 _ _).2.1 hR
      · subst e27
        rw [oel_s] at hR
        refine X_iload C dYa_confine_29 rfl ?_
        refine X_aload_n C dYa_confine_31 rfl ?_
        have hq := o_bind hR
        clear hR
        obtain ⟨u28, hx32, hR⟩ := hq
        obtain ⟨fs29, he30, hv31⟩ := gi_e hx32
        refine X_get (k := 2) C oPl fwYa_138 he30 hv31 dYa_confine_32 ?_
        refine X_icmp_ge (tgt := 69) C dYa_confine_35 (by decide) (fun c33 => ?_) (fun c33 => ?_)
        · rw [if_pos c33] at hR
          refine X_iinc (v := x2 + 1) (lv' := [(2, .int (x2 + 1)), (0, .ref (o)), (1, va_rf (y1)), (3, .ref (a26)), (4, .int (x4))]) C dYa_confine_69 rfl rfl (by decide) (by simp [rf_cat, cat_i, cat_r, cat_l, rf_n, rf_s] <;> decide) ?_
          refine X_goto (tgt := 2) C dYa_confine_72 (by decide) ?_
          refine X_sub (lv' := [(0, .ref (o)), (1, va_rf ((y1))), (2, .int (x2 + 1))]) [1, 2, 0] rfl ?_
          exact (ih (y1) (x2 + 1) none 0 _ _).2.1 hR
        · rw [if_neg c33] at hR
          refine X_iload C dYa_confine_38 rfl ?_
          refine X_iconst (v := 2) C dYa_confine_40 rfl ?_
          refine X_icmp_ge (tgt := 69) C dYa_confine_41 (by decide) (fun c34 => ?_) (fun c34 => ?_)
          · rw [if_pos c34] at hR
            refine X_iinc (v := x2 + 1) (lv' := [(2, .int (x2 + 1)), (0, .ref (o)), (1, va_rf (y1)), (3, .ref (a26)), (4, .int (x4))]) C dYa_confine_69 rfl rfl (by decide) (by simp [rf_cat, cat_i, cat_r, cat_l, rf_n, rf_s] <;> decide) ?_
            refine X_goto (tgt := 2) C dYa_confine_72 (by decide) ?_
            refine X_sub (lv' := [(0, .ref (o)), (1, va_rf ((y1))), (2, .int (x2 + 1))]) [1, 2, 0] rfl ?_
            exact (ih (y1) (x2 + 1) none 0 _ _).2.1 hR
          · rw [if_neg c34] at hR
            refine X_aload_nq C dYa_confine_44 rfl ?_
            refine X_aload_n C dYa_confine_45 rfl ?_
            have hq := o_bind hR
            clear hR
            obtain ⟨w35, hx39, hR⟩ := hq
            obtain ⟨fs36, he37, hv38⟩ := gq_e hx39
            refine X_get (k := 0) C oPl fwYa_143 he37 hv38 dYa_confine_46 ?_
            refine X_iload C dYa_confine_49 rfl ?_
            have hq := o_bind hR
            clear hR
            obtain ⟨a40, rfl, hR⟩ := hq
            have hq := o_bind hR
            clear hR
            obtain ⟨u41, hx42, hR⟩ := hq
            obtain ⟨n43, f44, he45, hi46, e47⟩ := ai_e hx42
            refine X_iald C rfl he45 hi46 dYa_confine_51 ?_
            rw [← e47]
            refine X_iconst (v := 0) C dYa_confine_52 rfl ?_
            refine X_aload_n C dYa_confine_53 rfl ?_
            have hq := o_bind hR
            clear hR
            obtain ⟨w48, hx52, hR⟩ := hq
            obtain ⟨fs49, he50, hv51⟩ := gq_e hx52
            refine X_get (k := 1) C oPl fwYa_146 he50 hv51 dYa_confine_54 ?_
            refine X_iload C dYa_confine_57 rfl ?_
            have hq := o_bind hR
            clear hR
            obtain ⟨a53, rfl, hR⟩ := hq
            have hq := o_bind hR
            clear hR
            obtain ⟨u54, hx55, hR⟩ := hq
            obtain ⟨n56, f57, he58, hi59, e60⟩ := ai_e hx55
            refine X_iald C rfl he58 hi59 dYa_confine_59 ?_
            rw [← e60]
            have hq := o_bind hR
            clear hR
            obtain ⟨a61, rfl, hR⟩ := hq
            have hq := o_if hR
            clear hR
            obtain ⟨k63, hR⟩ := hq
            obtain ⟨fs64, he65⟩ := kc_e k63
            have hq := o_bind hR
            clear hR
            obtain ⟨r62, hr62, hR⟩ := hq
            refine X_callVk (As := [.int (u41), .int ((0 : Int32)), .int (u54)]) (rest := []) C (Zo_squeeze_c hr62) wYa_229 ⟨by decide, by decide⟩ ⟨Nat.le_refl _, Nat.le_refl _⟩ he65 oZo.2.1 rfl rfl (Nat.le_of_ble_eq_true rfl) dYa_confine_60 ?_
            show X F G B _ 5 (r62.2) _ _ _ _ _ []
            refine X_iinc (v := x4 + 1) (lv' := [(4, .int (x4 + 1)), (0, .ref (o)), (1, .ref (a61)), (2, .int (x2)), (3, .ref (a26))]) C dYa_confine_63 rfl rfl (by decide) rfl ?_
            refine X_goto (tgt := 25) C dYa_confine_66 (by decide) ?_
            refine X_sub (lv' := [(0, .ref (o)), (1, va_rf ((some (a61)))), (2, .int (x2)), (3, va_rf ((some (a26)))), (4, .int (x4 + 1))]) [1, 2, 3, 4, 0] rfl ?_
            exact (ih (some (a61)) (x2) (some (a26)) (x4 + 1) _ _).2.2 hR
theorem Ya_confine_c {l : Launch} {G : xG} {B sz : Nat} {o : Nat} {n : Nat} {y1 : Option Nat} {h : xH} {R : Int32 × xH} (hR : Ya_confine_f n 0 o y1 0 none 0 h = some R) : xCon l yYa_confine cYa_confine 5 none 2 48 0 0 G B [.ref (o), va_rf (y1)] h sz (kP none R.2 sz) := xCon.of (by decide) (by simp [lg_sl, rf_cat, cat_i, cat_r, cat_l]) (fun F e C hr _ => X_sub (lv' := [(0, .ref (o)), (1, va_rf (y1))]) [0, 1] (by simp [lv_args, lv_pick, rf_cat, cat_i, cat_r, cat_l]) ((Ya_confine_x C hr n y1 0 none 0 h R).1 hR))
def Ya_follow_f (n : Nat) (o : Nat) (y1 : Option Nat) (y2 : Option Nat) (y3 : Option Nat) (h : xH) : Option (Int32 × xH) := obd (Ya_obey_f n 0 (y1) (y2) 0 h) (fun r1 => obd y2 (fun a2 => obd (gi r1.2 (a2) 7 3) (fun u3 => oel (y3) (obd y1 (fun a10 => (if kc r1.2 (a10) 1 = true then obd (Zo_reset_f n 0 (a10) (u3) 0 0 r1.2) (fun r11 => (if kc r11.2 (o) 3 = true then obd (Ya_confine_f n 0 (o) (some (a10)) 0 none 0 r11.2) (fun r12 => some (0, r12.2)) else none)) else none))) (fun a8 => obd (Ya_obey_f n 0 (y1) (some (a8)) 0 r1.2) (fun r19 => obd (gi r19.2 (a8) 7 3) (fun u20 => obd y1 (fun a25 => (if kc r19.2 (a25) 1 = true then obd (Zo_reset_f n 0 (a25) ((u3) ||| (u20)) 0 0 r19.2) (fun r26 => (if kc r26.2 (o) 3 = true then obd (Ya_confine_f n 0 (o) (some (a25)) 0 none 0 r26.2) (fun r27 => some (0, r27.2)) else none)) else none))))))))
set_option maxRecDepth 100000 in
set_option maxHeartbeats 8000000 in
theorem Ya_follow_x {F : xF} {G : xG} {B sz : Nat} {o : Nat} (C : xC F G B cYa_follow RYa 5 3 72 0 0) (hr : (xFM F).sig.returnType = none) {n : Nat} {y1 : Option Nat} {y2 : Option Nat} {y3 : Option Nat} {h : xH} {R : Int32 × xH} (hR : Ya_follow_f n o y1 y2 y3 h = some R) : X F G B (xZ F G B (kP none R.2 sz) 0 0) 5 h sz 0 0 0 [(0, .ref (o)), (1, va_rf (y1)), (2, va_rf (y2)), (3, va_rf (y3))] [] := by
  unfold Ya_follow_f at hR
  refine X_aload_nq C dYa_follow_0 rfl ?_
  refine X_aload_nq C dYa_follow_1 rfl ?_
  have hq := o_bind hR
  clear hR
  obtain ⟨r1, hr1, hR⟩ := hq
  refine X_callSk (As := [va_rf (y1), va_rf (y2)]) (rest := []) C (Ya_obey_c hr1) wYa_218 ⟨by decide, by decide⟩ ⟨Nat.le_refl _, Nat.le_refl _⟩ rfl rfl (Nat.le_of_ble_eq_true rfl) dYa_follow_2 ?_
  show X F G B _ 5 (r1.2) _ _ _ _ _ []
  refine X_aload_nq C dYa_follow_5 rfl ?_
  have hq := o_bind hR
  clear hR
  obtain ⟨a2, rfl, hR⟩ := hq
  have hq := o_bind hR
  clear hR
  obtain ⟨u3, hx7, hR⟩ := hq
  obtain ⟨fs4, he5, hv6⟩ := gi_e hx7
  refine X_get (k := 3) C oWa fwYa_222 he5 hv6 dYa_follow_6 ?_
  refine X_istore (lv' := [(4, .int (u3)), (0, .ref (o)), (1, va_rf (y1)), (2, .ref (a2)), (3, va_rf (y3))]) C dYa_follow_9 (by decide) (by simp [rf_cat, cat_i, cat_r, cat_l, rf_n, rf_s] <;> decide) ?_
  refine X_aload_nq C dYa_follow_11 rfl ?_
  refine X_ifnullq (tgt := 29) C dYa_follow_12 (by decide) (fun e9 => ?_) (fun a8 e9 => ?_)
  · subst e9
    rw [oel_n] at hR
    refine X_aload_nq C dYa_follow_29 rfl ?_
    refine X_iload C dYa_follow_30 rfl ?_
    have hq := o_bind hR
    clear hR
    obtain ⟨a10, rfl, hR⟩ := hq
    have hq := o_if hR
    clear hR
    obtain ⟨k16, hR⟩ := hq
    obtain ⟨fs17, he18⟩ := kc_e k16
    have hq := o_bind hR
    clear hR
    obtain ⟨r11, hr11, hR⟩ := hq
    refine X_callVk (As := [.int (u3)]) (rest := []) C (Zo_reset_c hr11) wYa_225 ⟨by decide, by decide⟩ ⟨Nat.le_refl _, Nat.le_refl _⟩ he18 oZo.2.1 rfl rfl (Nat.le_of_ble_eq_true rfl) dYa_follow_32 ?_
    show X F G B _ 5 (r11.2) _ _ _ _ _ []
    refine X_aload_n C dYa_follow_35 rfl ?_
    refine X_aload_n C dYa_follow_36 rfl ?_
    have hq := o_if hR
    clear hR
    obtain ⟨k13, hR⟩ := hq
    obtain ⟨fs14, he15⟩ := kc_e k13
    have hq := o_bind hR
    clear hR
    obtain ⟨r12, hr12, hR⟩ := hq
    refine X_callVk (As := [.ref (a10)]) (rest := []) C (Ya_confine_c hr12) wYa_90 ⟨by decide, by decide⟩ ⟨Nat.le_refl _, Nat.le_refl _⟩ he15 oYa.2.1 rfl rfl (Nat.le_of_ble_eq_true rfl) dYa_follow_37 ?_
    show X F G B _ 5 (r12.2) _ _ _ _ _ []
    rw [← Option.some.inj hR]
    exact X_vret C hr (Nat.le_refl _) (Nat.le_refl _) dYa_follow_40 ⟨rfl, rfl, rfl⟩
  · subst e9
    rw [oel_s] at hR
    refine X_aload_nq C dYa_follow_15 rfl ?_
    refine X_aload_n C dYa_follow_16 rfl ?_
    have hq := o_bind hR
    clear hR
    obtain ⟨r19, hr19, hR⟩ := hq
    refine X_callSk (As := [va_rf (y1), .ref (a8)]) (rest := []) C (Ya_obey_c hr19) wYa_218 ⟨by decide, by decide⟩ ⟨Nat.le_refl _, Nat.le_refl _⟩ rfl rfl (Nat.le_of_ble_eq_true rfl) dYa_follow_17 ?_
    show X F G B _ 5 (r19.2) _ _ _ _ _ []
    refine X_iload C dYa_follow_20 rfl ?_
    refine X_aload_n C dYa_follow_22 rfl ?_
    have hq := o_bind hR
    clear hR
    obtain ⟨u20, hx24, hR⟩ := hq
    obtain ⟨fs21, he22, hv23⟩ := gi_e hx24
    refine X_get (k := 3) C oWa fwYa_222 he22 hv23 dYa_follow_23 ?_
    refine X_ior C dYa_follow_26 ?_
    refine X_istore (lv' := [(4, .int ((u3) ||| (u20))), (0, .ref (o)), (1, va_rf (y1)), (2, .ref (a2)), (3, .ref (a8))]) C dYa_follow_27 (by decide) (by simp [rf_cat, cat_i, cat_r, cat_l, rf_n, rf_s] <;> decide) ?_
    refine X_aload_nq C dYa_follow_29 rfl ?_
    refine X_iload C dYa_follow_30 rfl ?_
    have hq := o_bind hR
    clear hR
    obtain ⟨a25, rfl, hR⟩ := hq
    have hq := o_if hR
    clear hR
    obtain ⟨k31, hR⟩ := hq
    obtain ⟨fs32, he33⟩ := kc_e k31
    have hq := o_bind hR
    clear hR
    obtain ⟨r26, hr26, hR⟩ := hq
    refine X_callVk (As := [.int ((u3) ||| (u20))]) (rest := []) C (Zo_reset_c hr26) wYa_225 ⟨by decide, by decide⟩ ⟨Nat.le_refl _, Nat.le_refl _⟩ he33 oZo.2.1 rfl rfl (Nat.le_of_ble_eq_true rfl) dYa_follow_32 ?_
    show X F G B _ 5 (r26.2) _ _ _ _ _ []
    refine X_aload_n C dYa_follow_35 rfl ?_
    refine X_aload_n C dYa_follow_36 rfl ?_
    have hq := o_if hR
    clear hR
    obtain ⟨k28, hR⟩ := hq
    obtain ⟨fs29, he30⟩ := kc_e k28
    have hq := o_bind hR
    clear hR
    obtain ⟨r27, hr27, hR⟩ := hq
    refine X_callVk (As := [.ref (a25)]) (rest := []) C (Ya_confine_c hr27) wYa_90 ⟨by decide, by decide⟩ ⟨Nat.le_refl _, Nat.le_refl _⟩ he30 oYa.2.1 rfl rfl (Nat.le_of_ble_eq_true rfl) dYa_follow_37 ?_
    show X F G B _ 5 (r27.2) _ _ _ _ _ []
    rw [← Option.some.inj hR]
    exact X_vret C hr (Nat.le_refl _) (Nat.le_refl _) dYa_follow_40 ⟨rfl, rfl, rfl⟩
theorem Ya_follow_c {l : Launch} {G : xG} {B sz : Nat} {o : Nat} {n : Nat} {y1 : Option Nat} {y2 : Option Nat} {y3 : Option Nat} {h : xH} {R : Int32 × xH} (hR : Ya_follow_f n o y1 y2 y3 h = some R) : xCon l yYa_follow cYa_follow 5 none 3 72 0 0 G B [.ref (o), va_rf (y1), va_rf (y2), va_rf (y3)] h sz (kP none R.2 sz) := xCon.of (by decide) (by simp [lg_sl, rf_cat, cat_i, cat_r, cat_l]) (fun F e C hr _ => X_sub (lv' := [(0, .ref (o)), (1, va_rf (y1)), (2, va_rf (y2)), (3, va_rf (y3))]) [0, 1, 2, 3] (by simp [lv_args, lv_pick, rf_cat, cat_i, cat_r, cat_l]) (Ya_follow_x C hr hR))
def Zo_elapse_t0 (f : Nat → Int32 → xH → Option (Int32 × xH)) (n : Nat) (o : Nat) (x1 : Int32) (h : xH) : Option (Int32 × xH) := f 2 ((1 : Int32)) h
def Zo_elapse_t2 (f : Nat → Int32 → xH → Option (Int32 × xH)) (n : Nat) (o : Nat) (x1 : Int32) (h : xH) : Option (Int32 × xH) := obd (gi h (o) 1 0) (fun u1 => (if u1 ≤ x1 then some (0, h) else obd (gq h (o) 1 1) (fun w7 => obd (gi h (o) 1 0) (fun u12 => obd w7 (fun a17 => obd (pa h (a17) 0 ((x1) * (u12)) ((1000000 : Int32))) (fun h18 => f 2 (x1 + 1) h18))))))
def Zo_elapse_f : Nat → Nat → Nat → Int32 → xH → Option (Int32 × xH)
  | 0 => fun _ _ _ _ => none
  | n + 1 => fun p o x1 h => if p = 0 then Zo_elapse_t0 (fun p x1 h => Zo_elapse_f n p o x1 h) n o x1 h else if p = 2 then Zo_elapse_t2 (fun p x1 h => Zo_elapse_f n p o x1 h) n o x1 h else none
theorem Zo_elapse_e0 (n : Nat) (o : Nat) (x1 : Int32) (h : xH) : Zo_elapse_f (n + 1) 0 o x1 h = Zo_elapse_t0 (fun p x1 h => Zo_elapse_f n p o x1 h) n o x1 h := by
  show (if 0 = 0 then Zo_elapse_t0 (fun p x1 h => Zo_elapse_f n p o x1 h) n o x1 h else if 0 = 2 then Zo_elapse_t2 (fun p x1 h => Zo_elapse_f n p o x1 h) n o x1 h else none) = _
  rw [if_pos rfl]
theorem Zo_elapse_e2 (n : Nat) (o : Nat) (x1 : Int32) (h : xH) : Zo_elapse_f (n + 1) 2 o x1 h = Zo_elapse_t2 (fun p x1 h => Zo_elapse_f n p o x1 h) n o x1 h := by
  show (if 2 = 0 then Zo_elapse_t0 (fun p x1 h => Zo_elapse_f n p o x1 h) n o x1 h else if 2 = 2 then Zo_elapse_t2 (fun p x1 h => Zo_elapse_f n p o x1 h) n o x1 h else none) = _
  rw [if_neg (by decide), if_pos rfl]
set_option maxRecDepth 100000 in
set_option maxHeartbeats 8000000 in
theorem Zo_elapse_x {F : xF} {G : xG} {B sz : Nat} {o : Nat} (C : xC F G B cZo_elapse RZo 2 0 0 0 0) (hr : (xFM F).sig.returnType = none) : ∀ (n : Nat) (x1 : Int32) (h : xH) (R : Int32 × xH), (Zo_elapse_f n 0 o x1 h = some R → X F G B (xZ F G B (kP none R.2 sz) 0 0) 2 h sz 0 0 0 [(0, .ref (o))] []) ∧ (Zo_elapse_f n 2 o x1 h = some R → X F G B (xZ F G B (kP none R.2 sz) 0 0) 2 h sz 0 0 2 [(0, .ref (o)), (1, .int (x1))] []) := by
  intro n
  induction n with
  | zero => exact fun _ _ _ => ⟨(fun hR => nomatch (show (none : Option _) = some _ from hR)), (fun hR => nomatch (show (none : Option _) = some _ from hR))⟩
  | succ n ih =>
    intro x1 h R
    refine ⟨fun hR => ?_, fun hR => ?_⟩
    · rw [Zo_elapse_e0] at hR
      unfold Zo_elapse_t0 at hR
      refine X_iconst (v := 1) C dZo_elapse_0 rfl ?_
      refine X_istore_n (lv' := [(1, .int ((1 : Int32))), (0, .ref (o))]) C dZo_elapse_1 (by decide) rfl ?_
      refine X_sub (lv' := [(0, .ref (o)), (1, .int ((1 : Int32)))]) [1, 0] rfl ?_
      exact (ih ((1 : Int32)) _ _).2 hR
    · rw [Zo_elapse_e2] at hR
      unfold Zo_elapse_t2 at hR
      refine X_iload_n C dZo_elapse_2 rfl ?_
      refine X_aload_n C dZo_elapse_3 rfl ?_
      have hq := o_bind hR
      clear hR
      obtain ⟨u1, hx5, hR⟩ := hq
      obtain ⟨fs2, he3, hv4⟩ := gi_e hx5
      refine X_get (k := 0) C oZo fwZo_9 he3 hv4 dZo_elapse_4 ?_
      refine X_icmp_ge (tgt := 29) C dZo_elapse_7 (by decide) (fun c6 => ?_) (fun c6 => ?_)
      · rw [if_pos c6] at hR
        rw [← Option.some.inj hR]
        exact X_vret C hr (Nat.le_refl _) (Nat.le_refl _) dZo_elapse_29 ⟨rfl, rfl, rfl⟩
      · rw [if_neg c6] at hR
        refine X_aload_n C dZo_elapse_10 rfl ?_
        have hq := o_bind hR
        clear hR
        obtain ⟨w7, hx11, hR⟩ := hq
        obtain ⟨fs8, he9, hv10⟩ := gq_e hx11
        refine X_get (k := 1) C oZo fwZo_15 he9 hv10 dZo_elapse_11 ?_
        refine X_iload_n C dZo_elapse_14 rfl ?_
        refine X_aload_n C dZo_elapse_15 rfl ?_
        have hq := o_bind hR
        clear hR
        obtain ⟨u12, hx16, hR⟩ := hq
        obtain ⟨fs13, he14, hv15⟩ := gi_e hx16
        refine X_get (k := 0) C oZo fwZo_9 he14 hv15 dZo_elapse_16 ?_
        refine X_imul C dZo_elapse_19 ?_
        refine X_ldc (v := 1000000) C kZo_25 dZo_elapse_20 ?_
        have hq := o_bind hR
        clear hR
        obtain ⟨a17, rfl, hR⟩ := hq
        have hq := o_bind hR
        clear hR
        obtain ⟨h18, hh19, hR⟩ := hq
        obtain ⟨n20, f21, he22, hi23, e24⟩ := pa_e hh19
        refine X_iast C rfl he22 hi23 dZo_elapse_22 ?_
        rw [← e24]
        refine X_iinc (v := x1 + 1) (lv' := [(1, .int (x1 + 1)), (0, .ref (o))]) C dZo_elapse_23 rfl rfl (by decide) rfl ?_
        refine X_goto (tgt := 2) C dZo_elapse_26 (by decide) ?_
        refine X_sub (lv' := [(0, .ref (o)), (1, .int (x1 + 1))]) [1, 0] rfl ?_
        exact (ih (x1 + 1) _ _).2 hR
theorem Zo_elapse_c {l : Launch} {G : xG} {B sz : Nat} {o : Nat} {n : Nat} {h : xH} {R : Int32 × xH} (hR : Zo_elapse_f n 0 o 0 h = some R) : xCon l yZo_elapse cZo_elapse 2 none 0 0 0 0 G B [.ref (o)] h sz (kP none R.2 sz) := xCon.of (by decide) (by exact Nat.le_of_ble_eq_true rfl) (fun F e C hr _ => X_sub (lv' := [(0, .ref (o))]) [0] rfl ((Zo_elapse_x C hr n 0 h R).1 hR))
def Ya_stay_f (n : Nat) (o : Nat) (y1 : Option Nat) (h : xH) : Option (Int32 × xH) := obd y1 (fun a1 => (if kc h (a1) 1 = true then obd (Zo_elapse_f n 0 (a1) 0 h) (fun r2 => (if kc r2.2 (o) 3 = true then obd (Ya_confine_f n 0 (o) (some (a1)) 0 none 0 r2.2) (fun r3 => some (0, r3.2)) else none)) else none))
set_option maxRecDepth 100000 in
set_option maxHeartbeats 8000000 in
theorem Ya_stay_x {F : xF} {G : xG} {B sz : Nat} {o : Nat} (C : xC F G B cYa_stay RYa 2 3 72 0 0) (hr : (xFM F).sig.returnType = none) {n : Nat} {y1 : Option Nat} {h : xH} {R : Int32 × xH} (hR : Ya_stay_f n o y1 h = some R) : X F G B (xZ F G B (kP none R.2 sz) 0 0) 2 h sz 0 0 0 [(0, .ref (o)), (1, va_rf (y1))] [] := by
  unfold Ya_stay_f at hR
  refine X_aload_nq C dYa_stay_0 rfl ?_
  have hq := o_bind hR
  clear hR
  obtain ⟨a1, rfl, hR⟩ := hq
  have hq := o_if hR
  clear hR
  obtain ⟨k7, hR⟩ := hq
  obtain ⟨fs8, he9⟩ := kc_e k7
  have hq := o_bind hR
  clear hR
  obtain ⟨r2, hr2, hR⟩ := hq
  refine X_callVk (As := []) (rest := []) C (Zo_elapse_c hr2) wYa_233 ⟨by decide, by decide⟩ ⟨Nat.le_refl _, Nat.le_refl _⟩ he9 oZo.2.1 rfl rfl (Nat.le_of_ble_eq_true rfl) dYa_stay_1 ?_
  show X F G B _ 2 (r2.2) _ _ _ _ _ []
  refine X_aload_n C dYa_stay_4 rfl ?_
  refine X_aload_n C dYa_stay_5 rfl ?_
  have hq := o_if hR
  clear hR
  obtain ⟨k4, hR⟩ := hq
  obtain ⟨fs5, he6⟩ := kc_e k4
  have hq := o_bind hR
  clear hR
  obtain ⟨r3, hr3, hR⟩ := hq
  refine X_callVk (As := [.ref (a1)]) (rest := []) C (Ya_confine_c hr3) wYa_90 ⟨by decide, by decide⟩ ⟨Nat.le_refl _, Nat.le_refl _⟩ he6 oYa.2.1 rfl rfl (Nat.le_of_ble_eq_true rfl) dYa_stay_6 ?_
  show X F G B _ 2 (r3.2) _ _ _ _ _ []
  rw [← Option.some.inj hR]
  exact X_vret C hr (Nat.le_refl _) (Nat.le_refl _) dYa_stay_9 ⟨rfl, rfl, rfl⟩
theorem Ya_stay_c {l : Launch} {G : xG} {B sz : Nat} {o : Nat} {n : Nat} {y1 : Option Nat} {h : xH} {R : Int32 × xH} (hR : Ya_stay_f n o y1 h = some R) : xCon l yYa_stay cYa_stay 2 none 3 72 0 0 G B [.ref (o), va_rf (y1)] h sz (kP none R.2 sz) := xCon.of (by decide) (by simp [lg_sl, rf_cat, cat_i, cat_r, cat_l]) (fun F e C hr _ => X_sub (lv' := [(0, .ref (o)), (1, va_rf (y1))]) [0, 1] (by simp [lv_args, lv_pick, rf_cat, cat_i, cat_r, cat_l]) (Ya_stay_x C hr hR))
def Zo_liesIn_t0 (f : Nat → Option Nat → Int32 → xH → Option (Int32 × xH)) (n : Nat) (o : Nat) (y1 : Option Nat) (x2 : Int32) (h : xH) : Option (Int32 × xH) := obd (gi h (o) 1 2) (fun u1 => (if u1 = 0 then obd y1 (fun a13 => obd (gi h (a13) 1 2) (fun u14 => (if u14 = 0 then obd (gi h (a13) 1 0) (fun u20 => obd (gi h (o) 1 0) (fun u25 => (if u20 = u25 then f 34 (some (a13)) ((0 : Int32)) h else some ((0 : Int32), h)))) else obd (gi h (o) 1 2) (fun u31 => (if zb (u31) = true then some (u31, h) else none))))) else obd (gi h (o) 1 2) (fun u7 => (if zb (u7) = true then some (u7, h) else none))))
def Zo_liesIn_t34 (f : Nat → Option Nat → Int32 → xH → Option (Int32 × xH)) (n : Nat) (o : Nat) (y1 : Option Nat) (x2 : Int32) (h : xH) : Option (Int32 × xH) := obd (gq h (o) 1 1) (fun w37 => obd w37 (fun a42 => obd (al h (a42) 0) (fun u43 => (if u43 ≤ x2 then some ((1 : Int32), h) else obd (gq h (o) 1 1) (fun w49 => obd w49 (fun a54 => obd (ai h (a54) 0 (x2)) (fun u55 => obd y1 (fun a62 => obd (gq h (a62) 1 1) (fun w63 => obd w63 (fun a68 => obd (ai h (a68) 0 (x2)) (fun u69 => (if u55 ≤ u69 then f 34 (some (a62)) (x2 + 1) h else some ((0 : Int32), h)))))))))))))
def Zo_liesIn_f : Nat → Nat → Nat → Option Nat → Int32 → xH → Option (Int32 × xH)
  | 0 => fun _ _ _ _ _ => none
  | n + 1 => fun p o y1 x2 h => if p = 0 then Zo_liesIn_t0 (fun p y1 x2 h => Zo_liesIn_f n p o y1 x2 h) n o y1 x2 h else if p = 34 then Zo_liesIn_t34 (fun p y1 x2 h => Zo_liesIn_f n p o y1 x2 h) n o y1 x2 h else none
theorem Zo_liesIn_e0 (n : Nat) (o : Nat) (y1 : Option Nat) (x2 : Int32) (h : xH) : Zo_liesIn_f (n + 1) 0 o y1 x2 h = Zo_liesIn_t0 (fun p y1 x2 h => Zo_liesIn_f n p o y1 x2 h) n o y1 x2 h := by
  show (if 0 = 0 then Zo_liesIn_t0 (fun p y1 x2 h => Zo_liesIn_f n p o y1 x2 h) n o y1 x2 h else if 0 = 34 then Zo_liesIn_t34 (fun p y1 x2 h => Zo_liesIn_f n p o y1 x2 h) n o y1 x2 h else none) = _
  rw [if_pos rfl]
theorem Zo_liesIn_e34 (n : Nat) (o : Nat) (y1 : Option Nat) (x2 : Int32) (h : xH) : Zo_liesIn_f (n + 1) 34 o y1 x2 h = Zo_liesIn_t34 (fun p y1 x2 h => Zo_liesIn_f n p o y1 x2 h) n o y1 x2 h := by
  show (if 34 = 0 then Zo_liesIn_t0 (fun p y1 x2 h => Zo_liesIn_f n p o y1 x2 h) n o y1 x2 h else if 34 = 34 then Zo_liesIn_t34 (fun p y1 x2 h => Zo_liesIn_f n p o y1 x2 h) n o y1 x2 h else none) = _
  rw [if_neg (by decide), if_pos rfl]
set_option maxRecDepth 100000 in
set_option maxHeartbeats 8000000 in
theorem Zo_liesIn_x {F : xF} {G : xG} {B sz : Nat} {o : Nat} (C : xC F G B cZo_liesIn RZo 3 0 0 0 0) (hr : (xFM F).sig.returnType = (some .boolean)) : ∀ (n : Nat) (y1 : Option Nat) (x2 : Int32) (h : xH) (R : Int32 × xH), (Zo_liesIn_f n 0 o y1 x2 h = some R → X F G B (xZ F G B (kP (some (.int R.1)) R.2 sz) 0 0) 3 h sz 0 0 0 [(0, .ref (o)), (1, va_rf (y1))] []) ∧ (Zo_liesIn_f n 34 o y1 x2 h = some R → X F G B (xZ F G B (kP (some (.int R.1)) R.2 sz) 0 0) 3 h sz 0 0 34 [(0, .ref (o)), (1, va_rf (y1)), (2, .int (x2))] []) := by
  intro n
  induction n with
  | zero => exact fun _ _ _ _ => ⟨(fun hR => nomatch (show (none : Option _) = some _ from hR)), (fun hR => nomatch (show (none : Option _) = some _ from hR))⟩
  | succ n ih =>
    intro y1 x2 h R
    refine ⟨fun hR => ?_, fun hR => ?_⟩
    · rw [Zo_liesIn_e0] at hR
      unfold Zo_liesIn_t0 at hR
      refine X_aload_n C dZo_liesIn_0 rfl ?_
      have hq := o_bind hR
      clear hR
      obtain ⟨u1, hx5, hR⟩ := hq
      obtain ⟨fs2, he3, hv4⟩ := gi_e hx5
      refine X_get (k := 2) C oZo fwZo_26 he3 hv4 dZo_liesIn_1 ?_
      refine X_if_ne (tgt := 14) C dZo_liesIn_4 (by decide) (fun c6 => ?_) (fun c6 => ?_)
      · rw [if_neg c6] at hR
        refine X_aload_n C dZo_liesIn_14 rfl ?_
        have hq := o_bind hR
        clear hR
        obtain ⟨u7, hx11, hR⟩ := hq
        obtain ⟨fs8, he9, hv10⟩ := gi_e hx11
        refine X_get (k := 2) C oZo fwZo_26 he9 hv10 dZo_liesIn_15 ?_
        have hq := o_if hR
        clear hR
        obtain ⟨b12, hR⟩ := hq
        rw [← Option.some.inj hR]
        exact X_zret C hr (zb_n b12) (Nat.le_refl _) (Nat.le_refl _) dZo_liesIn_18 ⟨rfl, rfl, rfl⟩
      · rw [if_pos c6] at hR
        refine X_aload_nq C dZo_liesIn_7 rfl ?_
        have hq := o_bind hR
        clear hR
        obtain ⟨a13, rfl, hR⟩ := hq
        have hq := o_bind hR
        clear hR
        obtain ⟨u14, hx18, hR⟩ := hq
        obtain ⟨fs15, he16, hv17⟩ := gi_e hx18
        refine X_get (k := 2) C oZo fwZo_26 he16 hv17 dZo_liesIn_8 ?_
        refine X_if_eq (tgt := 19) C dZo_liesIn_11 (by decide) (fun c19 => ?_) (fun c19 => ?_)
        · rw [if_pos c19] at hR
          refine X_aload_n C dZo_liesIn_19 rfl ?_
          have hq := o_bind hR
          clear hR
          obtain ⟨u20, hx24, hR⟩ := hq
          obtain ⟨fs21, he22, hv23⟩ := gi_e hx24
          refine X_get (k := 0) C oZo fwZo_9 he22 hv23 dZo_liesIn_20 ?_
          refine X_aload_n C dZo_liesIn_23 rfl ?_
          have hq := o_bind hR
          clear hR
          obtain ⟨u25, hx29, hR⟩ := hq
          obtain ⟨fs26, he27, hv28⟩ := gi_e hx29
          refine X_get (k := 0) C oZo fwZo_9 he27 hv28 dZo_liesIn_24 ?_
          refine X_icmp_eq (tgt := 32) C dZo_liesIn_27 (by decide) (fun c30 => ?_) (fun c30 => ?_)
          · rw [if_pos c30] at hR
            refine X_iconst (v := 0) C dZo_liesIn_32 rfl ?_
            refine X_istore_n (lv' := [(2, .int ((0 : Int32))), (0, .ref (o)), (1, .ref (a13))]) C dZo_liesIn_33 (by decide) rfl ?_
            refine X_sub (lv' := [(0, .ref (o)), (1, va_rf ((some (a13)))), (2, .int ((0 : Int32)))]) [1, 2, 0] rfl ?_
            exact (ih (some (a13)) ((0 : Int32)) _ _).2 hR
          · rw [if_neg c30] at hR
            refine X_iconst (v := 0) C dZo_liesIn_30 rfl ?_
            rw [← Option.some.inj hR]
            exact X_zret C hr rfl (Nat.le_refl _) (Nat.le_refl _) dZo_liesIn_31 ⟨rfl, rfl, rfl⟩
        · rw [if_neg c19] at hR
          refine X_aload_n C dZo_liesIn_14 rfl ?_
          have hq := o_bind hR
          clear hR
          obtain ⟨u31, hx35, hR⟩ := hq
          obtain ⟨fs32, he33, hv34⟩ := gi_e hx35
          refine X_get (k := 2) C oZo fwZo_26 he33 hv34 dZo_liesIn_15 ?_
          have hq := o_if hR
          clear hR
          obtain ⟨b36, hR⟩ := hq
          rw [← Option.some.inj hR]
          exact X_zret C hr (zb_n b36) (Nat.le_refl _) (Nat.le_refl _) dZo_liesIn_18 ⟨rfl, rfl, rfl⟩
    · rw [Zo_liesIn_e34] at hR
      unfold Zo_liesIn_t34 at hR
      refine X_iload_n C dZo_liesIn_34 rfl ?_
      refine X_aload_n C dZo_liesIn_35 rfl ?_
      have hq := o_bind hR
      clear hR
      obtain ⟨w37, hx41, hR⟩ := hq
      obtain ⟨fs38, he39, hv40⟩ := gq_e hx41
      refine X_get (k := 1) C oZo fwZo_15 he39 hv40 dZo_liesIn_36 ?_
      have hq := o_bind hR
      clear hR
      obtain ⟨a42, rfl, hR⟩ := hq
      have hq := o_bind hR
      clear hR
      obtain ⟨u43, hx44, hR⟩ := hq
      obtain ⟨v45, he46, e47⟩ := al_e hx44
      refine X_alen C rfl he46 e47 dZo_liesIn_39 ?_
      refine X_icmp_ge (tgt := 66) C dZo_liesIn_40 (by decide) (fun c48 => ?_) (fun c48 => ?_)
      · rw [if_pos c48] at hR
        refine X_iconst (v := 1) C dZo_liesIn_66 rfl ?_
        rw [← Option.some.inj hR]
        exact X_zret C hr rfl (Nat.le_refl _) (Nat.le_refl _) dZo_liesIn_67 ⟨rfl, rfl, rfl⟩
      · rw [if_neg c48] at hR
        refine X_aload_n C dZo_liesIn_43 rfl ?_
        have hq := o_bind hR
        clear hR
        obtain ⟨w49, hx53, hR⟩ := hq
        obtain ⟨fs50, he51, hv52⟩ := gq_e hx53
        refine X_get (k := 1) C oZo fwZo_15 he51 hv52 dZo_liesIn_44 ?_
        refine X_iload_n C dZo_liesIn_47 rfl ?_
        have hq := o_bind hR
        clear hR
        obtain ⟨a54, rfl, hR⟩ := hq
        have hq := o_bind hR
        clear hR
        obtain ⟨u55, hx56, hR⟩ := hq
        obtain ⟨n57, f58, he59, hi60, e61⟩ := ai_e hx56
        refine X_iald C rfl he59 hi60 dZo_liesIn_48 ?_
        rw [← e61]
        refine X_aload_nq C dZo_liesIn_49 rfl ?_
        have hq := o_bind hR
        clear hR
        obtain ⟨a62, rfl, hR⟩ := hq
        have hq := o_bind hR
        clear hR
        obtain ⟨w63, hx67, hR⟩ := hq
        obtain ⟨fs64, he65, hv66⟩ := gq_e hx67
        refine X_get (k := 1) C oZo fwZo_15 he65 hv66 dZo_liesIn_50 ?_
        refine X_iload_n C dZo_liesIn_53 rfl ?_
        have hq := o_bind hR
        clear hR
        obtain ⟨a68, rfl, hR⟩ := hq
        have hq := o_bind hR
        clear hR
        obtain ⟨u69, hx70, hR⟩ := hq
        obtain ⟨n71, f72, he73, hi74, e75⟩ := ai_e hx70
        refine X_iald C rfl he73 hi74 dZo_liesIn_54 ?_
        rw [← e75]
        refine X_icmp_le (tgt := 60) C dZo_liesIn_55 (by decide) (fun c76 => ?_) (fun c76 => ?_)
        · rw [if_pos c76] at hR
          refine X_iinc (v := x2 + 1) (lv' := [(2, .int (x2 + 1)), (0, .ref (o)), (1, .ref (a62))]) C dZo_liesIn_60 rfl rfl (by decide) rfl ?_
          refine X_goto (tgt := 34) C dZo_liesIn_63 (by decide) ?_
          refine X_sub (lv' := [(0, .ref (o)), (1, va_rf ((some (a62)))), (2, .int (x2 + 1))]) [1, 2, 0] rfl ?_
          exact (ih (some (a62)) (x2 + 1) _ _).2 hR
        · rw [if_neg c76] at hR
          refine X_iconst (v := 0) C dZo_liesIn_58 rfl ?_
          rw [← Option.some.inj hR]
          exact X_zret C hr rfl (Nat.le_refl _) (Nat.le_refl _) dZo_liesIn_59 ⟨rfl, rfl, rfl⟩
theorem Zo_liesIn_c {l : Launch} {G : xG} {B sz : Nat} {o : Nat} {n : Nat} {y1 : Option Nat} {h : xH} {R : Int32 × xH} (hR : Zo_liesIn_f n 0 o y1 0 h = some R) : xCon l yZo_liesIn cZo_liesIn 3 (some .boolean) 0 0 0 0 G B [.ref (o), va_rf (y1)] h sz (kP (some (.int R.1)) R.2 sz) := xCon.of (by decide) (by simp [lg_sl, rf_cat, cat_i, cat_r, cat_l]) (fun F e C hr _ => X_sub (lv' := [(0, .ref (o)), (1, va_rf (y1))]) [0, 1] (by simp [lv_args, lv_pick, rf_cat, cat_i, cat_r, cat_l]) ((Zo_liesIn_x C hr n y1 0 h R).1 hR))
