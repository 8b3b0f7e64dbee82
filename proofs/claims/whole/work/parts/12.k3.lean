def Ya_wayFrom_f (n : Nat) (o : Nat) (y1 : Option Nat) (x2 : Int32) (x3 : Int32) (h : xH) : Option (Option Nat × xH) := (if kc h (o) 3 = true then obd (Ya_wayAt_f n (o) (x2) (x3) h) (fun r1 => bnd (r1.1) (fun w2 => oel (w2) (some (none, r1.2)) (fun a4 => obd (gi r1.2 (a4) 7 0) (fun u6 => obd y1 (fun a11 => obd (gq r1.2 (a11) 2 1) (fun w12 => obd w12 (fun a17 => obd (ai r1.2 (a17) 0 (x2)) (fun u18 => (if u6 = u18 then some ((some (a4)), r1.2) else some (none, r1.2)))))))))) else none)
set_option maxRecDepth 100000 in
set_option maxHeartbeats 8000000 in
theorem Ya_wayFrom_x {F : xF} {G : xG} {B sz : Nat} {o : Nat} (C : xC F G B cYa_wayFrom RYa 5 2 44 0 0) (hr : (xFM F).sig.returnType = (some (.object "TimedYard$Way"))) {n : Nat} {y1 : Option Nat} {x2 : Int32} {x3 : Int32} {h : xH} {R : Option Nat × xH} (hR : Ya_wayFrom_f n o y1 x2 x3 h = some R) : X F G B (xZ F G B (kP (some (va_rf R.1)) R.2 sz) 0 0) 5 h sz 0 0 0 [(0, .ref (o)), (1, va_rf (y1)), (2, .int (x2)), (3, .int (x3))] [] := by
  unfold Ya_wayFrom_f at hR
  refine X_aload_n C dYa_wayFrom_0 rfl ?_
  refine X_iload_n C dYa_wayFrom_1 rfl ?_
  refine X_iload_n C dYa_wayFrom_2 rfl ?_
  have hq := o_if hR
  clear hR
  obtain ⟨k26, hR⟩ := hq
  obtain ⟨fs27, he28⟩ := kc_e k26
  have hq := o_bind hR
  clear hR
  obtain ⟨r1, hr1, hR⟩ := hq
  refine X_callVk (As := [.int (x2), .int (x3)]) (rest := []) C (Ya_wayAt_c hr1) wYa_130 ⟨by decide, by decide⟩ ⟨Nat.le_refl _, Nat.le_refl _⟩ he28 oYa.2.1 rfl rfl (Nat.le_of_ble_eq_true rfl) dYa_wayFrom_3 ?_
  show X F G B _ 5 (r1.2) _ _ _ _ _ [va_rf (r1.1)]
  have hq := b_bnd hR
  clear hR
  obtain ⟨w2, e3, hR⟩ := hq
  rw [← e3]
  refine X_astoreq (lv' := [(4, va_rf (w2)), (0, .ref (o)), (1, va_rf (y1)), (2, .int (x2)), (3, .int (x3))]) C dYa_wayFrom_6 (by decide) (by simp [rf_cat, cat_i, cat_r, cat_l, rf_n, rf_s] <;> decide) ?_
  refine X_aloadq C dYa_wayFrom_8 rfl ?_
  refine X_ifnullq (tgt := 32) C dYa_wayFrom_10 (by decide) (fun e5 => ?_) (fun a4 e5 => ?_)
  · subst e5
    rw [oel_n] at hR
    refine X_null C dYa_wayFrom_32 ?_
    rw [← Option.some.inj hR]
    exact X_aret C hr (Or.inl ⟨_, rfl⟩) (Or.inl rfl) (Nat.le_refl _) (Nat.le_refl _) dYa_wayFrom_33 ⟨rfl, rfl, rfl⟩
  · subst e5
    rw [oel_s] at hR
    refine X_aload C dYa_wayFrom_13 rfl ?_
    have hq := o_bind hR
    clear hR
    obtain ⟨u6, hx10, hR⟩ := hq
    obtain ⟨fs7, he8, hv9⟩ := gi_e hx10
    refine X_get (k := 0) C oWa fwYa_189 he8 hv9 dYa_wayFrom_15 ?_
    refine X_aload_nq C dYa_wayFrom_18 rfl ?_
    have hq := o_bind hR
    clear hR
    obtain ⟨a11, rfl, hR⟩ := hq
    have hq := o_bind hR
    clear hR
    obtain ⟨w12, hx16, hR⟩ := hq
    obtain ⟨fs13, he14, hv15⟩ := gq_e hx16
    refine X_get (k := 1) C oSt fwYa_192 he14 hv15 dYa_wayFrom_19 ?_
    refine X_iload_n C dYa_wayFrom_22 rfl ?_
    have hq := o_bind hR
    clear hR
    obtain ⟨a17, rfl, hR⟩ := hq
    have hq := o_bind hR
    clear hR
    obtain ⟨u18, hx19, hR⟩ := hq
    obtain ⟨n20, f21, he22, hi23, e24⟩ := ai_e hx19
    refine X_iald C rfl he22 hi23 dYa_wayFrom_23 ?_
    rw [← e24]
    refine X_icmp_ne (tgt := 32) C dYa_wayFrom_24 (by decide) (fun c25 => ?_) (fun c25 => ?_)
    · rw [if_neg c25] at hR
      refine X_null C dYa_wayFrom_32 ?_
      rw [← Option.some.inj hR]
      exact X_aret C hr (Or.inl ⟨_, rfl⟩) (Or.inl rfl) (Nat.le_refl _) (Nat.le_refl _) dYa_wayFrom_33 ⟨rfl, rfl, rfl⟩
    · rw [if_pos c25] at hR
      refine X_aload C dYa_wayFrom_27 rfl ?_
      refine X_goto (tgt := 33) C dYa_wayFrom_29 (by decide) ?_
      rw [← Option.some.inj hR]
      exact X_aret C hr (Or.inl ⟨_, rfl⟩) (Or.inr ⟨_, rfl⟩) (Nat.le_refl _) (Nat.le_refl _) dYa_wayFrom_33 ⟨rfl, rfl, rfl⟩
theorem Ya_wayFrom_c {l : Launch} {G : xG} {B sz : Nat} {o : Nat} {n : Nat} {y1 : Option Nat} {x2 : Int32} {x3 : Int32} {h : xH} {R : Option Nat × xH} (hR : Ya_wayFrom_f n o y1 x2 x3 h = some R) : xCon l yYa_wayFrom cYa_wayFrom 5 (some (.object "TimedYard$Way")) 2 44 0 0 G B [.ref (o), va_rf (y1), .int (x2), .int (x3)] h sz (kP (some (va_rf R.1)) R.2 sz) := xCon.of (by decide) (by simp [lg_sl, rf_cat, cat_i, cat_r, cat_l]) (fun F e C hr hnm => X_sub (lv' := [(0, .ref (o)), (1, va_rf (y1)), (2, .int (x2)), (3, .int (x3))]) [0, 1, 2, 3] (by simp [lv_args, lv_pick, rf_cat, cat_i, cat_r, cat_l]) (Ya_wayFrom_x C hr hR))
def Ya_obey_t0 (f : Nat → Option Nat → Option Nat → Int32 → xH → Option (Int32 × xH)) (n : Nat) (y0 : Option Nat) (y1 : Option Nat) (x2 : Int32) (h : xH) : Option (Int32 × xH) := f 2 (y0) (y1) ((0 : Int32)) h
def Ya_obey_t2 (f : Nat → Option Nat → Option Nat → Int32 → xH → Option (Int32 × xH)) (n : Nat) (y0 : Option Nat) (y1 : Option Nat) (x2 : Int32) (h : xH) : Option (Int32 × xH) := obd y1 (fun a1 => obd (gi h (a1) 7 6) (fun u2 => (if u2 ≤ x2 then some (0, h) else (if (3 : Int32) ≤ x2 then some (0, h) else obd (gq h (a1) 7 4) (fun w9 => obd w9 (fun a14 => obd (ai h (a14) 0 (x2)) (fun u15 => obd (gq h (a1) 7 4) (fun w22 => obd w22 (fun a27 => obd (ai h (a27) 0 (x2)) (fun u28 => obd (gq h (a1) 7 5) (fun w35 => obd w35 (fun a40 => obd (ai h (a40) 0 (x2)) (fun u41 => obd y0 (fun a48 => (if kc h (a48) 1 = true then obd (Zo_squeeze_f n 0 (a48) ((u15) / ((4 : Int32))) ((u28) - (u28) / ((4 : Int32)) * ((4 : Int32))) (u41) 0 0 0 h) (fun r49 => f 2 (some (a48)) (some (a1)) (x2 + 1) r49.2) else none)))))))))))))))
def Ya_obey_f : Nat → Nat → Option Nat → Option Nat → Int32 → xH → Option (Int32 × xH)
  | 0 => fun _ _ _ _ _ => none
  | n + 1 => fun p y0 y1 x2 h => if p = 0 then Ya_obey_t0 (Ya_obey_f n) n y0 y1 x2 h else if p = 2 then Ya_obey_t2 (Ya_obey_f n) n y0 y1 x2 h else none
theorem Ya_obey_e0 (n : Nat) (y0 : Option Nat) (y1 : Option Nat) (x2 : Int32) (h : xH) : Ya_obey_f (n + 1) 0 y0 y1 x2 h = Ya_obey_t0 (Ya_obey_f n) n y0 y1 x2 h := by
  show (if 0 = 0 then Ya_obey_t0 (Ya_obey_f n) n y0 y1 x2 h else if 0 = 2 then Ya_obey_t2 (Ya_obey_f n) n y0 y1 x2 h else none) = _
  rw [if_pos rfl]
theorem Ya_obey_e2 (n : Nat) (y0 : Option Nat) (y1 : Option Nat) (x2 : Int32) (h : xH) : Ya_obey_f (n + 1) 2 y0 y1 x2 h = Ya_obey_t2 (Ya_obey_f n) n y0 y1 x2 h := by
  show (if 2 = 0 then Ya_obey_t0 (Ya_obey_f n) n y0 y1 x2 h else if 2 = 2 then Ya_obey_t2 (Ya_obey_f n) n y0 y1 x2 h else none) = _
  rw [if_neg (by decide), if_pos rfl]
set_option maxRecDepth 100000 in
set_option maxHeartbeats 8000000 in
theorem Ya_obey_x {F : xF} {G : xG} {B sz : Nat} (C : xC F G B cYa_obey RYa 3 2 48 0 0) (hr : (xFM F).sig.returnType = none) : ∀ (n : Nat) (y0 : Option Nat) (y1 : Option Nat) (x2 : Int32) (h : xH) (R : Int32 × xH), (Ya_obey_f n 0 y0 y1 x2 h = some R → X F G B (xZ F G B (kP none R.2 sz) 0 0) 3 h sz 0 0 0 [(0, va_rf (y0)), (1, va_rf (y1))] []) ∧ (Ya_obey_f n 2 y0 y1 x2 h = some R → X F G B (xZ F G B (kP none R.2 sz) 0 0) 3 h sz 0 0 2 [(0, va_rf (y0)), (1, va_rf (y1)), (2, .int (x2))] []) := by
  intro n
  induction n with
  | zero => exact fun _ _ _ _ _ => ⟨(fun hR => nomatch (show (none : Option _) = some _ from hR)), (fun hR => nomatch (show (none : Option _) = some _ from hR))⟩
  | succ n ih =>
    intro y0 y1 x2 h R
    refine ⟨fun hR => ?_, fun hR => ?_⟩
    · rw [Ya_obey_e0] at hR
      unfold Ya_obey_t0 at hR
      refine X_iconst (v := 0) C dYa_obey_0 rfl ?_
      refine X_istore_n (lv' := [(2, .int ((0 : Int32))), (0, va_rf (y0)), (1, va_rf (y1))]) C dYa_obey_1 (by decide) (by simp [rf_cat, cat_i, cat_r, cat_l, rf_n, rf_s] <;> decide) ?_
      refine X_sub (lv' := [(0, va_rf ((y0))), (1, va_rf ((y1))), (2, .int ((0 : Int32)))]) [1, 2, 0] rfl ?_
      exact (ih (y0) (y1) ((0 : Int32)) _ _).2 hR
    · rw [Ya_obey_e2] at hR
      unfold Ya_obey_t2 at hR
      refine X_iload_n C dYa_obey_2 rfl ?_
      refine X_aload_nq C dYa_obey_3 rfl ?_
      have hq := o_bind hR
      clear hR
      obtain ⟨a1, rfl, hR⟩ := hq
      have hq := o_bind hR
      clear hR
      obtain ⟨u2, hx6, hR⟩ := hq
      obtain ⟨fs3, he4, hv5⟩ := gi_e hx6
      refine X_get (k := 6) C oWa fwYa_153 he4 hv5 dYa_obey_4 ?_
      refine X_icmp_ge (tgt := 47) C dYa_obey_7 (by decide) (fun c7 => ?_) (fun c7 => ?_)
      · rw [if_pos c7] at hR
        rw [← Option.some.inj hR]
        exact X_vret C hr (Nat.le_refl _) (Nat.le_refl _) dYa_obey_47 ⟨rfl, rfl, rfl⟩
      · rw [if_neg c7] at hR
        refine X_iload_n C dYa_obey_10 rfl ?_
        refine X_iconst (v := 3) C dYa_obey_11 rfl ?_
        refine X_icmp_ge (tgt := 47) C dYa_obey_12 (by decide) (fun c8 => ?_) (fun c8 => ?_)
        · rw [if_pos c8] at hR
          rw [← Option.some.inj hR]
          exact X_vret C hr (Nat.le_refl _) (Nat.le_refl _) dYa_obey_47 ⟨rfl, rfl, rfl⟩
        · rw [if_neg c8] at hR
          refine X_aload_nq C dYa_obey_15 rfl ?_
          refine X_aload_n C dYa_obey_16 rfl ?_
          have hq := o_bind hR
          clear hR
          obtain ⟨w9, hx13, hR⟩ := hq
          obtain ⟨fs10, he11, hv12⟩ := gq_e hx13
          refine X_get (k := 4) C oWa fwYa_158 he11 hv12 dYa_obey_17 ?_
          refine X_iload_n C dYa_obey_20 rfl ?_
          have hq := o_bind hR
          clear hR
          obtain ⟨a14, rfl, hR⟩ := hq
          have hq := o_bind hR
          clear hR
          obtain ⟨u15, hx16, hR⟩ := hq
          obtain ⟨n17, f18, he19, hi20, e21⟩ := ai_e hx16
          refine X_iald C rfl he19 hi20 dYa_obey_21 ?_
          rw [← e21]
          refine X_iconst (v := 4) C dYa_obey_22 rfl ?_
          refine X_idiv C dYa_obey_23 (by decide) ?_
          refine X_aload_n C dYa_obey_24 rfl ?_
          have hq := o_bind hR
          clear hR
          obtain ⟨w22, hx26, hR⟩ := hq
          obtain ⟨fs23, he24, hv25⟩ := gq_e hx26
          refine X_get (k := 4) C oWa fwYa_158 he24 hv25 dYa_obey_25 ?_
          refine X_iload_n C dYa_obey_28 rfl ?_
          have hq := o_bind hR
          clear hR
          obtain ⟨a27, rfl, hR⟩ := hq
          have hq := o_bind hR
          clear hR
          obtain ⟨u28, hx29, hR⟩ := hq
          obtain ⟨n30, f31, he32, hi33, e34⟩ := ai_e hx29
          refine X_iald C rfl he32 hi33 dYa_obey_29 ?_
          rw [← e34]
          refine X_iconst (v := 4) C dYa_obey_30 rfl ?_
          refine X_irem C dYa_obey_31 (by decide) ?_
          refine X_aload_n C dYa_obey_32 rfl ?_
          have hq := o_bind hR
          clear hR
          obtain ⟨w35, hx39, hR⟩ := hq
          obtain ⟨fs36, he37, hv38⟩ := gq_e hx39
          refine X_get (k := 5) C oWa fwYa_161 he37 hv38 dYa_obey_33 ?_
          refine X_iload_n C dYa_obey_36 rfl ?_
          have hq := o_bind hR
          clear hR
          obtain ⟨a40, rfl, hR⟩ := hq
          have hq := o_bind hR
          clear hR
          obtain ⟨u41, hx42, hR⟩ := hq
          obtain ⟨n43, f44, he45, hi46, e47⟩ := ai_e hx42
          refine X_iald C rfl he45 hi46 dYa_obey_37 ?_
          rw [← e47]
          have hq := o_bind hR
          clear hR
          obtain ⟨a48, rfl, hR⟩ := hq
          have hq := o_if hR
          clear hR
          obtain ⟨k50, hR⟩ := hq
          obtain ⟨fs51, he52⟩ := kc_e k50
          have hq := o_bind hR
          clear hR
          obtain ⟨r49, hr49, hR⟩ := hq
          refine X_callVk (As := [.int ((u15) / ((4 : Int32))), .int ((u28) - (u28) / ((4 : Int32)) * ((4 : Int32))), .int (u41)]) (rest := []) C (Zo_squeeze_c hr49) wYa_229 ⟨by decide, by decide⟩ ⟨Nat.le_refl _, Nat.le_refl _⟩ he52 oZo.2.1 rfl rfl (Nat.le_of_ble_eq_true rfl) dYa_obey_38 ?_
          show X F G B _ 3 (r49.2) _ _ _ _ _ []
          refine X_iinc (v := x2 + 1) (lv' := [(2, .int (x2 + 1)), (0, .ref (a48)), (1, .ref (a1))]) C dYa_obey_41 rfl rfl (by decide) rfl ?_
          refine X_goto (tgt := 2) C dYa_obey_44 (by decide) ?_
          refine X_sub (lv' := [(0, va_rf ((some (a48)))), (1, va_rf ((some (a1)))), (2, .int (x2 + 1))]) [1, 2, 0] rfl ?_
          exact (ih (some (a48)) (some (a1)) (x2 + 1) _ _).2 hR
theorem Ya_obey_c {l : Launch} {G : xG} {B sz : Nat} {n : Nat} {y0 : Option Nat} {y1 : Option Nat} {h : xH} {R : Int32 × xH} (hR : Ya_obey_f n 0 y0 y1 0 h = some R) : xCon l yYa_obey cYa_obey 3 none 2 48 0 0 G B [va_rf (y0), va_rf (y1)] h sz (kP none R.2 sz) := xCon.of (by decide) (by simp [lg_sl, rf_cat, cat_i, cat_r, cat_l]) (fun F e C hr hnm => X_sub (lv' := [(0, va_rf (y0)), (1, va_rf (y1))]) [0, 1] (by simp [lv_args, lv_pick, rf_cat, cat_i, cat_r, cat_l]) ((Ya_obey_x C hr n y0 y1 0 h R).1 hR))
def Zo_isSet_f (n : Nat) (x0 : Int32) (x1 : Int32) (h : xH) : Option (Int32 × xH) := (if x1 ≤ 0 then some ((0 : Int32), h) else (if (4 : Int32) ≤ x1 then some ((0 : Int32), h) else (if ((x0) >>> (((x1) - ((1 : Int32))) &&& 31)) &&& ((1 : Int32)) = (1 : Int32) then some ((1 : Int32), h) else some ((0 : Int32), h))))
set_option maxRecDepth 100000 in
set_option maxHeartbeats 8000000 in
theorem Zo_isSet_x {F : xF} {G : xG} {B sz : Nat} (C : xC F G B cZo_isSet RZo 2 0 0 0 0) (hr : (xFM F).sig.returnType = (some .boolean)) {n : Nat} {x0 : Int32} {x1 : Int32} {h : xH} {R : Int32 × xH} (hR : Zo_isSet_f n x0 x1 h = some R) : X F G B (xZ F G B (kP (some (.int R.1)) R.2 sz) 0 0) 2 h sz 0 0 0 [(0, .int (x0)), (1, .int (x1))] [] := by
  unfold Zo_isSet_f at hR
  refine X_iload_n C dZo_isSet_0 rfl ?_
  refine X_if_le (tgt := 24) C dZo_isSet_1 (by decide) (fun c1 => ?_) (fun c1 => ?_)
  · rw [if_pos c1] at hR
    refine X_iconst (v := 0) C dZo_isSet_24 rfl ?_
    rw [← Option.some.inj hR]
    exact X_zret C hr rfl (Nat.le_refl _) (Nat.le_refl _) dZo_isSet_25 ⟨rfl, rfl, rfl⟩
  · rw [if_neg c1] at hR
    refine X_iload_n C dZo_isSet_4 rfl ?_
    refine X_iconst (v := 4) C dZo_isSet_5 rfl ?_
    refine X_icmp_ge (tgt := 24) C dZo_isSet_6 (by decide) (fun c2 => ?_) (fun c2 => ?_)
    · rw [if_pos c2] at hR
      refine X_iconst (v := 0) C dZo_isSet_24 rfl ?_
      rw [← Option.some.inj hR]
      exact X_zret C hr rfl (Nat.le_refl _) (Nat.le_refl _) dZo_isSet_25 ⟨rfl, rfl, rfl⟩
    · rw [if_neg c2] at hR
      refine X_iload_n C dZo_isSet_9 rfl ?_
      refine X_iload_n C dZo_isSet_10 rfl ?_
      refine X_iconst (v := 1) C dZo_isSet_11 rfl ?_
      refine X_isub C dZo_isSet_12 ?_
      refine X_ishr C dZo_isSet_13 ?_
      refine X_iconst (v := 1) C dZo_isSet_14 rfl ?_
      refine X_iand C dZo_isSet_15 ?_
      refine X_iconst (v := 1) C dZo_isSet_16 rfl ?_
      refine X_icmp_ne (tgt := 24) C dZo_isSet_17 (by decide) (fun c3 => ?_) (fun c3 => ?_)
      · rw [if_neg c3] at hR
        refine X_iconst (v := 0) C dZo_isSet_24 rfl ?_
        rw [← Option.some.inj hR]
        exact X_zret C hr rfl (Nat.le_refl _) (Nat.le_refl _) dZo_isSet_25 ⟨rfl, rfl, rfl⟩
      · rw [if_pos c3] at hR
        refine X_iconst (v := 1) C dZo_isSet_20 rfl ?_
        refine X_goto (tgt := 25) C dZo_isSet_21 (by decide) ?_
        rw [← Option.some.inj hR]
        exact X_zret C hr rfl (Nat.le_refl _) (Nat.le_refl _) dZo_isSet_25 ⟨rfl, rfl, rfl⟩
theorem Zo_isSet_c {l : Launch} {G : xG} {B sz : Nat} {n : Nat} {x0 : Int32} {x1 : Int32} {h : xH} {R : Int32 × xH} (hR : Zo_isSet_f n x0 x1 h = some R) : xCon l yZo_isSet cZo_isSet 2 (some .boolean) 0 0 0 0 G B [.int (x0), .int (x1)] h sz (kP (some (.int R.1)) R.2 sz) := xCon.of (by decide) (by exact Nat.le_of_ble_eq_true rfl) (fun F e C hr hnm => X_sub (lv' := [(0, .int (x0)), (1, .int (x1))]) [0, 1] rfl (Zo_isSet_x C hr hR))
def Zo_reset_t0 (f : Nat → Int32 → Int32 → Int32 → xH → Option (Int32 × xH)) (n : Nat) (o : Nat) (x1 : Int32) (x2 : Int32) (x3 : Int32) (h : xH) : Option (Int32 × xH) := f 2 (x1) ((1 : Int32)) 0 h
def Zo_reset_t2 (f : Nat → Int32 → Int32 → Int32 → xH → Option (Int32 × xH)) (n : Nat) (o : Nat) (x1 : Int32) (x2 : Int32) (x3 : Int32) (h : xH) : Option (Int32 × xH) := (if (4 : Int32) ≤ x2 then some (0, h) else obd (Zo_isSet_f n (x1) (x2) h) (fun r2 => (if r2.1 = 0 then f 2 (x1) (x2 + 1) 0 r2.2 else f 20 (x1) (x2) ((0 : Int32)) r2.2)))
def Zo_reset_t20 (f : Nat → Int32 → Int32 → Int32 → xH → Option (Int32 × xH)) (n : Nat) (o : Nat) (x1 : Int32) (x2 : Int32) (x3 : Int32) (h : xH) : Option (Int32 × xH) := obd (gi h (o) 1 0) (fun u4 => (if u4 ≤ x3 then f 2 (x1) (x2 + 1) 0 h else obd (Zo_isSet_f n (x1) (x3) h) (fun r10 => obd (gq r10.2 (o) 1 1) (fun w11 => obd (gi r10.2 (o) 1 0) (fun u16 => (if r10.1 = 0 then (if kc r10.2 (o) 1 = true then obd (Zo_at_f n (o) ((0 : Int32)) (x3) r10.2) (fun r22 => obd w11 (fun a23 => obd (pa r22.2 (a23) 0 (((x2) * (u16)) + (x3)) (r22.1)) (fun h24 => obd (gq h24 (o) 1 1) (fun w31 => obd (gi h24 (o) 1 0) (fun u36 => (if r10.1 = 0 then (if kc h24 (o) 1 = true then obd (Zo_at_f n (o) (x3) ((0 : Int32)) h24) (fun r42 => obd w31 (fun a43 => obd (pa r42.2 (a43) 0 (((x3) * (u36)) + (x2)) (r42.1)) (fun h44 => f 20 (x1) (x2) (x3 + 1) h44))) else none) else obd w31 (fun a54 => obd (pa h24 (a54) 0 (((x3) * (u36)) + (x2)) ((1 : Int32))) (fun h55 => f 20 (x1) (x2) (x3 + 1) h55)))))))) else none) else obd w11 (fun a65 => obd (pa r10.2 (a65) 0 (((x2) * (u16)) + (x3)) ((1 : Int32))) (fun h66 => obd (gq h66 (o) 1 1) (fun w73 => obd (gi h66 (o) 1 0) (fun u78 => (if r10.1 = 0 then (if kc h66 (o) 1 = true then obd (Zo_at_f n (o) (x3) ((0 : Int32)) h66) (fun r84 => obd w73 (fun a85 => obd (pa r84.2 (a85) 0 (((x3) * (u78)) + (x2)) (r84.1)) (fun h86 => f 20 (x1) (x2) (x3 + 1) h86))) else none) else obd w73 (fun a96 => obd (pa h66 (a96) 0 (((x3) * (u78)) + (x2)) ((1 : Int32))) (fun h97 => f 20 (x1) (x2) (x3 + 1) h97)))))))))))))
def Zo_reset_f : Nat → Nat → Nat → Int32 → Int32 → Int32 → xH → Option (Int32 × xH)
  | 0 => fun _ _ _ _ _ _ => none
  | n + 1 => fun p o x1 x2 x3 h => if p = 0 then Zo_reset_t0 (fun p x1 x2 x3 h => Zo_reset_f n p o x1 x2 x3 h) n o x1 x2 x3 h else if p = 2 then Zo_reset_t2 (fun p x1 x2 x3 h => Zo_reset_f n p o x1 x2 x3 h) n o x1 x2 x3 h else if p = 20 then Zo_reset_t20 (fun p x1 x2 x3 h => Zo_reset_f n p o x1 x2 x3 h) n o x1 x2 x3 h else none
theorem Zo_reset_e0 (n : Nat) (o : Nat) (x1 : Int32) (x2 : Int32) (x3 : Int32) (h : xH) : Zo_reset_f (n + 1) 0 o x1 x2 x3 h = Zo_reset_t0 (fun p x1 x2 x3 h => Zo_reset_f n p o x1 x2 x3 h) n o x1 x2 x3 h := by
  show (if 0 = 0 then Zo_reset_t0 (fun p x1 x2 x3 h => Zo_reset_f n p o x1 x2 x3 h) n o x1 x2 x3 h else if 0 = 2 then Zo_reset_t2 (fun p x1 x2 x3 h => Zo_reset_f n p o x1 x2 x3 h) n o x1 x2 x3 h else if 0 = 20 then Zo_reset_t20 (fun p x1 x2 x3 h => Zo_reset_f n p o x1 x2 x3 h) n o x1 x2 x3 h else none) = _
  rw [if_pos rfl]
theorem Zo_reset_e2 (n : Nat) (o : Nat) (x1 : Int32) (x2 : Int32) (x3 : Int32) (h : xH) : Zo_reset_f (n + 1) 2 o x1 x2 x3 h = Zo_reset_t2 (fun p x1 x2 x3 h => Zo_reset_f n p o x1 x2 x3 h) n o x1 x2 x3 h := by
  show (if 2 = 0 then Zo_reset_t0 (fun p x1 x2 x3 h => Zo_reset_f n p o x1 x2 x3 h) n o x1 x2 x3 h else if 2 = 2 then Zo_reset_t2 (fun p x1 x2 x3 h => Zo_reset_f n p o x1 x2 x3 h) n o x1 x2 x3 h else if 2 = 20 then Zo_reset_t20 (fun p x1 x2 x3 h => Zo_reset_f n p o x1 x2 x3 h) n o x1 x2 x3 h else none) = _
  rw [if_neg (by decide), if_pos rfl]
theorem Zo_reset_e20 (n : Nat) (o : Nat) (x1 : Int32) (x2 : Int32) (x3 : Int32) (h : xH) : Zo_reset_f (n + 1) 20 o x1 x2 x3 h = Zo_reset_t20 (fun p x1 x2 x3 h => Zo_reset_f n p o x1 x2 x3 h) n o x1 x2 x3 h := by
  show (if 20 = 0 then Zo_reset_t0 (fun p x1 x2 x3 h => Zo_reset_f n p o x1 x2 x3 h) n o x1 x2 x3 h else if 20 = 2 then Zo_reset_t2 (fun p x1 x2 x3 h => Zo_reset_f n p o x1 x2 x3 h) n o x1 x2 x3 h else if 20 = 20 then Zo_reset_t20 (fun p x1 x2 x3 h => Zo_reset_f n p o x1 x2 x3 h) n o x1 x2 x3 h else none) = _
  rw [if_neg (by decide), if_neg (by decide), if_pos rfl]
set_option maxRecDepth 100000 in
set_option maxHeartbeats 8000000 in
theorem Zo_reset_x {F : xF} {G : xG} {B sz : Nat} {o : Nat} (C : xC F G B cZo_reset RZo 5 1 22 0 0) (hr : (xFM F).sig.returnType = none) : ∀ (n : Nat) (x1 : Int32) (x2 : Int32) (x3 : Int32) (h : xH) (R : Int32 × xH), (Zo_reset_f n 0 o x1 x2 x3 h = some R → X F G B (xZ F G B (kP none R.2 sz) 0 0) 5 h sz 0 0 0 [(0, .ref (o)), (1, .int (x1))] []) ∧ (Zo_reset_f n 2 o x1 x2 x3 h = some R → X F G B (xZ F G B (kP none R.2 sz) 0 0) 5 h sz 0 0 2 [(0, .ref (o)), (1, .int (x1)), (2, .int (x2))] []) ∧ (Zo_reset_f n 20 o x1 x2 x3 h = some R → X F G B (xZ F G B (kP none R.2 sz) 0 0) 5 h sz 0 0 20 [(0, .ref (o)), (1, .int (x1)), (2, .int (x2)), (3, .int (x3))] []) := by
  intro n
  induction n with
  | zero => exact fun _ _ _ _ _ => ⟨(fun hR => nomatch (show (none : Option _) = some _ from hR)), (fun hR => nomatch (show (none : Option _) = some _ from hR)), (fun hR => nomatch (show (none : Option _) = some _ from hR))⟩
  | succ n ih =>
    intro x1 x2 x3 h R
    refine ⟨fun hR => ?_, fun hR => ?_, fun hR => ?_⟩
    · rw [Zo_reset_e0] at hR
      unfold Zo_reset_t0 at hR
      refine X_iconst (v := 1) C dZo_reset_0 rfl ?_
      refine X_istore_n (lv' := [(2, .int ((1 : Int32))), (0, .ref (o)), (1, .int (x1))]) C dZo_reset_1 (by decide) rfl ?_
      refine X_sub (lv' := [(0, .ref (o)), (1, .int (x1)), (2, .int ((1 : Int32)))]) [1, 2, 0] rfl ?_
      exact (ih (x1) ((1 : Int32)) 0 _ _).2.1 hR
    · rw [Zo_reset_e2] at hR
      unfold Zo_reset_t2 at hR
      refine X_iload_n C dZo_reset_2 rfl ?_
      refine X_iconst (v := 4) C dZo_reset_3 rfl ?_
      refine X_icmp_ge (tgt := 103) C dZo_reset_4 (by decide) (fun c1 => ?_) (fun c1 => ?_)
      · rw [if_pos c1] at hR
        rw [← Option.some.inj hR]
        exact X_vret C hr (Nat.le_refl _) (Nat.le_refl _) dZo_reset_103 ⟨rfl, rfl, rfl⟩
      · rw [if_neg c1] at hR
        refine X_iload_n C dZo_reset_7 rfl ?_
        refine X_iload_n C dZo_reset_8 rfl ?_
        have hq := o_bind hR
        clear hR
        obtain ⟨r2, hr2, hR⟩ := hq
        refine X_callSk (As := [.int (x1), .int (x2)]) (rest := []) C (Zo_isSet_c hr2) wZo_52 ⟨by decide, by decide⟩ ⟨Nat.le_refl _, Nat.le_refl _⟩ rfl rfl (Nat.le_of_ble_eq_true rfl) dZo_reset_9 ?_
        show X F G B _ 5 (r2.2) _ _ _ _ _ [.int (r2.1)]
        refine X_if_ne (tgt := 18) C dZo_reset_12 (by decide) (fun c3 => ?_) (fun c3 => ?_)
        · rw [if_neg c3] at hR
          refine X_iconst (v := 0) C dZo_reset_18 rfl ?_
          refine X_istore_n (lv' := [(3, .int ((0 : Int32))), (0, .ref (o)), (1, .int (x1)), (2, .int (x2))]) C dZo_reset_19 (by decide) rfl ?_
          refine X_sub (lv' := [(0, .ref (o)), (1, .int (x1)), (2, .int (x2)), (3, .int ((0 : Int32)))]) [1, 2, 3, 0] rfl ?_
          exact (ih (x1) (x2) ((0 : Int32)) _ _).2.2 hR
        · rw [if_pos c3] at hR
          refine X_goto (tgt := 97) C dZo_reset_15 (by decide) ?_
          refine X_iinc (v := x2 + 1) (lv' := [(2, .int (x2 + 1)), (0, .ref (o)), (1, .int (x1))]) C dZo_reset_97 rfl rfl (by decide) rfl ?_
          refine X_goto (tgt := 2) C dZo_reset_100 (by decide) ?_
          refine X_sub (lv' := [(0, .ref (o)), (1, .int (x1)), (2, .int (x2 + 1))]) [1, 2, 0] rfl ?_
          exact (ih (x1) (x2 + 1) 0 _ _).2.1 hR
    · rw [Zo_reset_e20] at hR
      unfold Zo_reset_t20 at hR
      refine X_iload_n C dZo_reset_20 rfl ?_
      refine X_aload_n C dZo_reset_21 rfl ?_
      have hq := o_bind hR
      clear hR
      obtain ⟨u4, hx8, hR⟩ := hq
      obtain ⟨fs5, he6, hv7⟩ := gi_e hx8
      refine X_get (k := 0) C oZo fwZo_9 he6 hv7 dZo_reset_22 ?_
      refine X_icmp_ge (tgt := 97) C dZo_reset_25 (by decide) (fun c9 => ?_) (fun c9 => ?_)
      · rw [if_pos c9] at hR
        refine X_iinc (v := x2 + 1) (lv' := [(2, .int (x2 + 1)), (0, .ref (o)), (1, .int (x1)), (3, .int (x3))]) C dZo_reset_97 rfl rfl (by decide) rfl ?_
        refine X_goto (tgt := 2) C dZo_reset_100 (by decide) ?_
        refine X_sub (lv' := [(0, .ref (o)), (1, .int (x1)), (2, .int (x2 + 1))]) [1, 2, 0] rfl ?_
        exact (ih (x1) (x2 + 1) 0 _ _).2.1 hR
      · rw [if_neg c9] at hR
        refine X_iload_n C dZo_reset_28 rfl ?_
        refine X_iload_n C dZo_reset_29 rfl ?_
        have hq := o_bind hR
        clear hR
        obtain ⟨r10, hr10, hR⟩ := hq
        refine X_callSk (As := [.int (x1), .int (x3)]) (rest := []) C (Zo_isSet_c hr10) wZo_52 ⟨by decide, by decide⟩ ⟨Nat.le_refl _, Nat.le_refl _⟩ rfl rfl (Nat.le_of_ble_eq_true rfl) dZo_reset_30 ?_
        show X F G B _ 5 (r10.2) _ _ _ _ _ [.int (r10.1)]
        refine X_istore (lv' := [(4, .int (r10.1)), (0, .ref (o)), (1, .int (x1)), (2, .int (x2)), (3, .int (x3))]) C dZo_reset_33 (by decide) rfl ?_
        refine X_aload_n C dZo_reset_35 rfl ?_
        have hq := o_bind hR
        clear hR
        obtain ⟨w11, hx15, hR⟩ := hq
        obtain ⟨fs12, he13, hv14⟩ := gq_e hx15
        refine X_get (k := 1) C oZo fwZo_15 he13 hv14 dZo_reset_36 ?_
        refine X_iload_n C dZo_reset_39 rfl ?_
        refine X_aload_n C dZo_reset_40 rfl ?_
        have hq := o_bind hR
        clear hR
        obtain ⟨u16, hx20, hR⟩ := hq
        obtain ⟨fs17, he18, hv19⟩ := gi_e hx20
        refine X_get (k := 0) C oZo fwZo_9 he18 hv19 dZo_reset_41 ?_
        refine X_imul C dZo_reset_44 ?_
        refine X_iload_n C dZo_reset_45 rfl ?_
        refine X_iadd C dZo_reset_46 ?_
        refine X_iload C dZo_reset_47 rfl ?_
        refine X_if_eq (tgt := 56) C dZo_reset_49 (by decide) (fun c21 => ?_) (fun c21 => ?_)
        · rw [if_pos c21] at hR
          refine X_aload_n C dZo_reset_56 rfl ?_
          refine X_iconst (v := 0) C dZo_reset_57 rfl ?_
          refine X_iload_n C dZo_reset_58 rfl ?_
          have hq := o_if hR
          clear hR
          obtain ⟨k62, hR⟩ := hq
          obtain ⟨fs63, he64⟩ := kc_e k62
          have hq := o_bind hR
          clear hR
          obtain ⟨r22, hr22, hR⟩ := hq
          refine X_callVk (As := [.int ((0 : Int32)), .int (x3)]) (rest := [.int (((x2) * (u16)) + (x3)), va_rf (w11)]) C (Zo_at_c hr22) wZo_36 ⟨by decide, by decide⟩ ⟨Nat.le_refl _, Nat.le_refl _⟩ he64 oZo.2.1 rfl rfl (by simp [rf_cat, cat_i, cat_r, cat_l]) dZo_reset_59 ?_
          show X F G B _ 5 (r22.2) _ _ _ _ _ [.int (r22.1), .int (((x2) * (u16)) + (x3)), va_rf (w11)]
          have hq := o_bind hR
          clear hR
          obtain ⟨a23, rfl, hR⟩ := hq
          have hq := o_bind hR
          clear hR
          obtain ⟨h24, hh25, hR⟩ := hq
          obtain ⟨n26, f27, he28, hi29, e30⟩ := pa_e hh25
          refine X_iast C rfl he28 hi29 dZo_reset_62 ?_
          rw [← e30]
          refine X_aload_n C dZo_reset_63 rfl ?_
          have hq := o_bind hR
          clear hR
          obtain ⟨w31, hx35, hR⟩ := hq
          obtain ⟨fs32, he33, hv34⟩ := gq_e hx35
          refine X_get (k := 1) C oZo fwZo_15 he33 hv34 dZo_reset_64 ?_
          refine X_iload_n C dZo_reset_67 rfl ?_
          refine X_aload_n C dZo_reset_68 rfl ?_
          have hq := o_bind hR
          clear hR
          obtain ⟨u36, hx40, hR⟩ := hq
          obtain ⟨fs37, he38, hv39⟩ := gi_e hx40
          refine X_get (k := 0) C oZo fwZo_9 he38 hv39 dZo_reset_69 ?_
          refine X_imul C dZo_reset_72 ?_
          refine X_iload_n C dZo_reset_73 rfl ?_
          refine X_iadd C dZo_reset_74 ?_
          refine X_iload C dZo_reset_75 rfl ?_
          refine X_if_eq (tgt := 84) C dZo_reset_77 (by decide) (fun c41 => ?_) (fun c41 => ?_)
          · rw [if_pos c41] at hR
            refine X_aload_n C dZo_reset_84 rfl ?_
            refine X_iload_n C dZo_reset_85 rfl ?_
            refine X_iconst (v := 0) C dZo_reset_86 rfl ?_
            have hq := o_if hR
            clear hR
            obtain ⟨k51, hR⟩ := hq
            obtain ⟨fs52, he53⟩ := kc_e k51
            have hq := o_bind hR
            clear hR
            obtain ⟨r42, hr42, hR⟩ := hq
            refine X_callVk (As := [.int (x3), .int ((0 : Int32))]) (rest := [.int (((x3) * (u36)) + (x2)), va_rf (w31)]) C (Zo_at_c hr42) wZo_36 ⟨by decide, by decide⟩ ⟨Nat.le_refl _, Nat.le_refl _⟩ he53 oZo.2.1 rfl rfl (by simp [rf_cat, cat_i, cat_r, cat_l]) dZo_reset_87 ?_
            show X F G B _ 5 (r42.2) _ _ _ _ _ [.int (r42.1), .int (((x3) * (u36)) + (x2)), va_rf (w31)]
            have hq := o_bind hR
            clear hR
            obtain ⟨a43, rfl, hR⟩ := hq
            have hq := o_bind hR
            clear hR
            obtain ⟨h44, hh45, hR⟩ := hq
            obtain ⟨n46, f47, he48, hi49, e50⟩ := pa_e hh45
            refine X_iast C rfl he48 hi49 dZo_reset_90 ?_
            rw [← e50]
            refine X_iinc (v := x3 + 1) (lv' := [(3, .int (x3 + 1)), (4, .int (r10.1)), (0, .ref (o)), (1, .int (x1)), (2, .int (x2))]) C dZo_reset_91 rfl rfl (by decide) rfl ?_
            refine X_goto (tgt := 20) C dZo_reset_94 (by decide) ?_
            refine X_sub (lv' := [(0, .ref (o)), (1, .int (x1)), (2, .int (x2)), (3, .int (x3 + 1))]) [2, 3, 4, 0] rfl ?_
            exact (ih (x1) (x2) (x3 + 1) _ _).2.2 hR
          · rw [if_neg c41] at hR
            refine X_iconst (v := 1) C dZo_reset_80 rfl ?_
            refine X_goto (tgt := 90) C dZo_reset_81 (by decide) ?_
            have hq := o_bind hR
            clear hR
            obtain ⟨a54, rfl, hR⟩ := hq
            have hq := o_bind hR
            clear hR
            obtain ⟨h55, hh56, hR⟩ := hq
            obtain ⟨n57, f58, he59, hi60, e61⟩ := pa_e hh56
            refine X_iast C rfl he59 hi60 dZo_reset_90 ?_
            rw [← e61]
            refine X_iinc (v := x3 + 1) (lv' := [(3, .int (x3 + 1)), (4, .int (r10.1)), (0, .ref (o)), (1, .int (x1)), (2, .int (x2))]) C dZo_reset_91 rfl rfl (by decide) rfl ?_
            refine X_goto (tgt := 20) C dZo_reset_94 (by decide) ?_
            refine X_sub (lv' := [(0, .ref (o)), (1, .int (x1)), (2, .int (x2)), (3, .int (x3 + 1))]) [2, 3, 4, 0] rfl ?_
            exact (ih (x1) (x2) (x3 + 1) _ _).2.2 hR
        · rw [if_neg c21] at hR
          refine X_iconst (v := 1) C dZo_reset_52 rfl ?_
          refine X_goto (tgt := 62) C dZo_reset_53 (by decide) ?_
          have hq := o_bind hR
          clear hR
          obtain ⟨a65, rfl, hR⟩ := hq
          have hq := o_bind hR
          clear hR
          obtain ⟨h66, hh67, hR⟩ := hq
          obtain ⟨n68, f69, he70, hi71, e72⟩ := pa_e hh67
          refine X_iast C rfl he70 hi71 dZo_reset_62 ?_
          rw [← e72]
          refine X_aload_n C dZo_reset_63 rfl ?_
          have hq := o_bind hR
          clear hR
          obtain ⟨w73, hx77, hR⟩ := hq
          obtain ⟨fs74, he75, hv76⟩ := gq_e hx77
          refine X_get (k := 1) C oZo fwZo_15 he75 hv76 dZo_reset_64 ?_
          refine X_iload_n C dZo_reset_67 rfl ?_
          refine X_aload_n C dZo_reset_68 rfl ?_
          have hq := o_bind hR
          clear hR
          obtain ⟨u78, hx82, hR⟩ := hq
          obtain ⟨fs79, he80, hv81⟩ := gi_e hx82
          refine X_get (k := 0) C oZo fwZo_9 he80 hv81 dZo_reset_69 ?_
          refine X_imul C dZo_reset_72 ?_
          refine X_iload_n C dZo_reset_73 rfl ?_
          refine X_iadd C dZo_reset_74 ?_
          refine X_iload C dZo_reset_75 rfl ?_
          refine X_if_eq (tgt := 84) C dZo_reset_77 (by decide) (fun c83 => ?_) (fun c83 => ?_)
          · rw [if_pos c83] at hR
            refine X_aload_n C dZo_reset_84 rfl ?_
            refine X_iload_n C dZo_reset_85 rfl ?_
            refine X_iconst (v := 0) C dZo_reset_86 rfl ?_
            have hq := o_if hR
            clear hR
            obtain ⟨k93, hR⟩ := hq
            obtain ⟨fs94, he95⟩ := kc_e k93
            have hq := o_bind hR
            clear hR
            obtain ⟨r84, hr84, hR⟩ := hq
            refine X_callVk (As := [.int (x3), .int ((0 : Int32))]) (rest := [.int (((x3) * (u78)) + (x2)), va_rf (w73)]) C (Zo_at_c hr84) wZo_36 ⟨by decide, by decide⟩ ⟨Nat.le_refl _, Nat.le_refl _⟩ he95 oZo.2.1 rfl rfl (by simp [rf_cat, cat_i, cat_r, cat_l]) dZo_reset_87 ?_
            show X F G B _ 5 (r84.2) _ _ _ _ _ [.int (r84.1), .int (((x3) * (u78)) + (x2)), va_rf (w73)]
            have hq := o_bind hR
            clear hR
            obtain ⟨a85, rfl, hR⟩ := hq
            have hq := o_bind hR
            clear hR
            obtain ⟨h86, hh87, hR⟩ := hq
            obtain ⟨n88, f89, he90, hi91, e92⟩ := pa_e hh87
            refine X_iast C rfl he90 hi91 dZo_reset_90 ?_
            rw [← e92]
            refine X_iinc (v := x3 + 1) (lv' := [(3, .int (x3 + 1)), (4, .int (r10.1)), (0, .ref (o)), (1, .int (x1)), (2, .int (x2))]) C dZo_reset_91 rfl rfl (by decide) rfl ?_
            refine X_goto (tgt := 20) C dZo_reset_94 (by decide) ?_
            refine X_sub (lv' := [(0, .ref (o)), (1, .int (x1)), (2, .int (x2)), (3, .int (x3 + 1))]) [2, 3, 4, 0] rfl ?_
            exact (ih (x1) (x2) (x3 + 1) _ _).2.2 hR
          · rw [if_neg c83] at hR
            refine X_iconst (v := 1) C dZo_reset_80 rfl ?_
            refine X_goto (tgt := 90) C dZo_reset_81 (by decide) ?_
            have hq := o_bind hR
            clear hR
            obtain ⟨a96, rfl, hR⟩ := hq
            have hq := o_bind hR
            clear hR
            obtain ⟨h97, hh98, hR⟩ := hq
            obtain ⟨n99, f100, he101, hi102, e103⟩ := pa_e hh98
            refine X_iast C rfl he101 hi102 dZo_reset_90 ?_
            rw [← e103]
            refine X_iinc (v := x3 + 1) (lv' := [(3, .int (x3 + 1)), (4, .int (r10.1)), (0, .ref (o)), (1, .int (x1)), (2, .int (x2))]) C dZo_reset_91 rfl rfl (by decide) rfl ?_
            refine X_goto (tgt := 20) C dZo_reset_94 (by decide) ?_
            refine X_sub (lv' := [(0, .ref (o)), (1, .int (x1)), (2, .int (x2)), (3, .int (x3 + 1))]) [2, 3, 4, 0] rfl ?_
            exact (ih (x1) (x2) (x3 + 1) _ _).2.2 hR
theorem Zo_reset_c {l : Launch} {G : xG} {B sz : Nat} {o : Nat} {n : Nat} {x1 : Int32} {h : xH} {R : Int32 × xH} (hR : Zo_reset_f n 0 o x1 0 0 h = some R) : xCon l yZo_reset cZo_reset 5 none 1 22 0 0 G B [.ref (o), .int (x1)] h sz (kP none R.2 sz) := xCon.of (by decide) (by exact Nat.le_of_ble_eq_true rfl) (fun F e C hr hnm => X_sub (lv' := [(0, .ref (o)), (1, .int (x1))]) [0, 1] rfl ((Zo_reset_x C hr n x1 0 0 h R).1 hR))
def Ya_follow_f (n : Nat) (o : Nat) (y1 : Option Nat) (y2 : Option Nat) (y3 : Option Nat) (h : xH) : Option (Int32 × xH) := obd (Ya_obey_f n 0 (y1) (y2) 0 h) (fun r1 => obd y2 (fun a2 => obd (gi r1.2 (a2) 7 3) (fun u3 => oel (y3) (obd y1 (fun a10 => (if kc r1.2 (a10) 1 = true then obd (Zo_reset_f n 0 (a10) (u3) 0 0 r1.2) (fun r11 => (if kc r11.2 (o) 3 = true then obd (Ya_confine_f n 0 (o) (some (a10)) 0 none 0 r11.2) (fun r12 => some (0, r12.2)) else none)) else none))) (fun a8 => obd (Ya_obey_f n 0 (y1) (some (a8)) 0 r1.2) (fun r19 => obd (gi r19.2 (a8) 7 3) (fun u20 => obd y1 (fun a25 => (if kc r19.2 (a25) 1 = true then obd (Zo_reset_f n 0 (a25) ((u3) ||| (u20)) 0 0 r19.2) (fun r26 => (if kc r26.2 (o) 3 = true then obd (Ya_confine_f n 0 (o) (some (a25)) 0 none 0 r26.2) (fun r27 => some (0, r27.2)) else none)) else none))))))))
set_option maxRecDepth 100000 in
set_option maxHeartbeats 8000000 in
theorem Ya_follow_x {F : xF} {G : xG} {B sz : Nat} {o : Nat} (C : xC F G B cYa_follow RYa 5 3 72 0 0) (hr : (xFM F).sig.returnType = none) {n : Nat} {y1 : Option Nat} {y2 : Option Nat} {y3 : Option Nat} {h : xH} {R : Int32 × xH} (hR : Ya_follow_f n o y1 y2 y3 h = some R) : X F G B (xZ F G B (kP none R.2 sz) 0 0) 5 h sz 0 0 0 [(0, .ref (o)), (1, va_rf (y1)), (2, va_rf (y2)), (3, va_rf (y3))] [] := by
  unfold Ya_follow_f at hR
  refine X_aload_nq C dYa_follow_0 rfl ?_
  refine X_aload_nq C dYa_follow_1 rfl ?_
  have hq := o_bind hR
  clear hR
  obtain ⟨r1, hr1, hR⟩ := hq
  refine X_callSk (As := [va_rf (y1), va_rf (y2)]) (rest := []) C (Ya_obey_c hr1) wYa_218 ⟨by decide, by decide⟩ ⟨Nat.le_refl _, Nat.le_refl _⟩ rfl rfl (Nat.le_of_ble_eq_true rfl) dYa_follow_2 ?_
  show X F G B _ 5 (r1.2) _ _ _ _ _ []
  refine X_aload_nq C dYa_follow_5 rfl ?_
  have hq := o_bind hR
  clear hR
  obtain ⟨a2, rfl, hR⟩ := hq
  have hq := o_bind hR
  clear hR
  obtain ⟨u3, hx7, hR⟩ := hq
  obtain ⟨fs4, he5, hv6⟩ := gi_e hx7
  refine X_get (k := 3) C oWa fwYa_222 he5 hv6 dYa_follow_6 ?_
  refine X_istore (lv' := [(4, .int (u3)), (0, .ref (o)), (1, va_rf (y1)), (2, .ref (a2)), (3, va_rf (y3))]) C dYa_follow_9 (by decide) (by simp [rf_cat, cat_i, cat_r, cat_l, rf_n, rf_s] <;> decide) ?_
  refine X_aload_nq C dYa_follow_11 rfl ?_
  refine X_ifnullq (tgt := 29) C dYa_follow_12 (by decide) (fun e9 => ?_) (fun a8 e9 => ?_)
  · subst e9
    rw [oel_n] at hR
    refine X_aload_nq C dYa_follow_29 rfl ?_
    refine X_iload C dYa_follow_30 rfl ?_
    have hq := o_bind hR
    clear hR
    obtain ⟨a10, rfl, hR⟩ := hq
    have hq := o_if hR
    clear hR
    obtain ⟨k16, hR⟩ := hq
    obtain ⟨fs17, he18⟩ := kc_e k16
    have hq := o_bind hR
    clear hR
    obtain ⟨r11, hr11, hR⟩ := hq
    refine X_callVk (As := [.int (u3)]) (rest := []) C (Zo_reset_c hr11) wYa_225 ⟨by decide, by decide⟩ ⟨Nat.le_refl _, Nat.le_refl _⟩ he18 oZo.2.1 rfl rfl (Nat.le_of_ble_eq_true rfl) dYa_follow_32 ?_
    show X F G B _ 5 (r11.2) _ _ _ _ _ []
    refine X_aload_n C dYa_follow_35 rfl ?_
    refine X_aload_n C dYa_follow_36 rfl ?_
    have hq := o_if hR
    clear hR
    obtain ⟨k13, hR⟩ := hq
    obtain ⟨fs14, he15⟩ := kc_e k13
    have hq := o_bind hR
    clear hR
    obtain ⟨r12, hr12, hR⟩ := hq
    refine X_callVk (As := [.ref (a10)]) (rest := []) C (Ya_confine_c hr12) wYa_90 ⟨by decide, by decide⟩ ⟨Nat.le_refl _, Nat.le_refl _⟩ he15 oYa.2.1 rfl rfl (Nat.le_of_ble_eq_true rfl) dYa_follow_37 ?_
    show X F G B _ 5 (r12.2) _ _ _ _ _ []
    rw [← Option.some.inj hR]
    exact X_vret C hr (Nat.le_refl _) (Nat.le_refl _) dYa_follow_40 ⟨rfl, rfl, rfl⟩
  · subst e9
    rw [oel_s] at hR
    refine X_aload_nq C dYa_follow_15 rfl ?_
    refine X_aload_n C dYa_follow_16 rfl ?_
    have hq := o_bind hR
    clear hR
    obtain ⟨r19, hr19, hR⟩ := hq
    refine X_callSk (As := [va_rf (y1), .ref (a8)]) (rest := []) C (Ya_obey_c hr19) wYa_218 ⟨by decide, by decide⟩ ⟨Nat.le_refl _, Nat.le_refl _⟩ rfl rfl (Nat.le_of_ble_eq_true rfl) dYa_follow_17 ?_
    show X F G B _ 5 (r19.2) _ _ _ _ _ []
    refine X_iload C dYa_follow_20 rfl ?_
    refine X_aload_n C dYa_follow_22 rfl ?_
    have hq := o_bind hR
    clear hR
    obtain ⟨u20, hx24, hR⟩ := hq
    obtain ⟨fs21, he22, hv23⟩ := gi_e hx24
    refine X_get (k := 3) C oWa fwYa_222 he22 hv23 dYa_follow_23 ?_
    refine X_ior C dYa_follow_26 ?_
    refine X_istore (lv' := [(4, .int ((u3) ||| (u20))), (0, .ref (o)), (1, va_rf (y1)), (2, .ref (a2)), (3, .ref (a8))]) C dYa_follow_27 (by decide) (by simp [rf_cat, cat_i, cat_r, cat_l, rf_n, rf_s] <;> decide) ?_
    refine X_aload_nq C dYa_follow_29 rfl ?_
    refine X_iload C dYa_follow_30 rfl ?_
    have hq := o_bind hR
    clear hR
    obtain ⟨a25, rfl, hR⟩ := hq
    have hq := o_if hR
    clear hR
    obtain ⟨k31, hR⟩ := hq
    obtain ⟨fs32, he33⟩ := kc_e k31
    have hq := o_bind hR
    clear hR
    obtain ⟨r26, hr26, hR⟩ := hq
    refine X_callVk (As := [.int ((u3) ||| (u20))]) (rest := []) C (Zo_reset_c hr26) wYa_225 ⟨by decide, by decide⟩ ⟨Nat.le_refl _, Nat.le_refl _⟩ he33 oZo.2.1 rfl rfl (Nat.le_of_ble_eq_true rfl) dYa_follow_32 ?_
    show X F G B _ 5 (r26.2) _ _ _ _ _ []
    refine X_aload_n C dYa_follow_35 rfl ?_
    refine X_aload_n C dYa_follow_36 rfl ?_
    have hq := o_if hR
    clear hR
    obtain ⟨k28, hR⟩ := hq
    obtain ⟨fs29, he30⟩ := kc_e k28
    have hq := o_bind hR
    clear hR
    obtain ⟨r27, hr27, hR⟩ := hq
    refine X_callVk (As := [.ref (a25)]) (rest := []) C (Ya_confine_c hr27) wYa_90 ⟨by decide, by decide⟩ ⟨Nat.le_refl _, Nat.le_refl _⟩ he30 oYa.2.1 rfl rfl (Nat.le_of_ble_eq_true rfl) dYa_follow_37 ?_
    show X F G B _ 5 (r27.2) _ _ _ _ _ []
    rw [← Option.some.inj hR]
    exact X_vret C hr (Nat.le_refl _) (Nat.le_refl _) dYa_follow_40 ⟨rfl, rfl, rfl⟩
theorem Ya_follow_c {l : Launch} {G : xG} {B sz : Nat} {o : Nat} {n : Nat} {y1 : Option Nat} {y2 : Option Nat} {y3 : Option Nat} {h : xH} {R : Int32 × xH} (hR : Ya_follow_f n o y1 y2 y3 h = some R) : xCon l yYa_follow cYa_follow 5 none 3 72 0 0 G B [.ref (o), va_rf (y1), va_rf (y2), va_rf (y3)] h sz (kP none R.2 sz) := xCon.of (by decide) (by simp [lg_sl, rf_cat, cat_i, cat_r, cat_l]) (fun F e C hr hnm => X_sub (lv' := [(0, .ref (o)), (1, va_rf (y1)), (2, va_rf (y2)), (3, va_rf (y3))]) [0, 1, 2, 3] (by simp [lv_args, lv_pick, rf_cat, cat_i, cat_r, cat_l]) (Ya_follow_x C hr hR))
def Zo_liesIn_t0 (f : Nat → Option Nat → Int32 → xH → Option (Int32 × xH)) (n : Nat) (o : Nat) (y1 : Option Nat) (x2 : Int32) (h : xH) : Option (Int32 × xH) := obd (gi h (o) 1 2) (fun u1 => (if u1 = 0 then obd y1 (fun a13 => obd (gi h (a13) 1 2) (fun u14 => (if u14 = 0 then obd (gi h (a13) 1 0) (fun u20 => obd (gi h (o) 1 0) (fun u25 => (if u20 = u25 then f 34 (some (a13)) ((0 : Int32)) h else some ((0 : Int32), h)))) else obd (gi h (o) 1 2) (fun u31 => (if zb (u31) = true then some (u31, h) else none))))) else obd (gi h (o) 1 2) (fun u7 => (if zb (u7) = true then some (u7, h) else none))))
def Zo_liesIn_t34 (f : Nat → Option Nat → Int32 → xH → Option (Int32 × xH)) (n : Nat) (o : Nat) (y1 : Option Nat) (x2 : Int32) (h : xH) : Option (Int32 × xH) := obd (gq h (o) 1 1) (fun w37 => obd w37 (fun a42 => obd (al h (a42) 0) (fun u43 => (if u43 ≤ x2 then some ((1 : Int32), h) else obd (gq h (o) 1 1) (fun w49 => obd w49 (fun a54 => obd (ai h (a54) 0 (x2)) (fun u55 => obd y1 (fun a62 => obd (gq h (a62) 1 1) (fun w63 => obd w63 (fun a68 => obd (ai h (a68) 0 (x2)) (fun u69 => (if u55 ≤ u69 then f 34 (some (a62)) (x2 + 1) h else some ((0 : Int32), h)))))))))))))
def Zo_liesIn_f : Nat → Nat → Nat → Option Nat → Int32 → xH → Option (Int32 × xH)
  | 0 => fun _ _ _ _ _ => none
  | n + 1 => fun p o y1 x2 h => if p = 0 then Zo_liesIn_t0 (fun p y1 x2 h => Zo_liesIn_f n p o y1 x2 h) n o y1 x2 h else if p = 34 then Zo_liesIn_t34 (fun p y1 x2 h => Zo_liesIn_f n p o y1 x2 h) n o y1 x2 h else none
theorem Zo_liesIn_e0 (n : Nat) (o : Nat) (y1 : Option Nat) (x2 : Int32) (h : xH) : Zo_liesIn_f (n + 1) 0 o y1 x2 h = Zo_liesIn_t0 (fun p y1 x2 h => Zo_liesIn_f n p o y1 x2 h) n o y1 x2 h := by
  show (if 0 = 0 then Zo_liesIn_t0 (fun p y1 x2 h => Zo_liesIn_f n p o y1 x2 h) n o y1 x2 h else if 0 = 34 then Zo_liesIn_t34 (fun p y1 x2 h => Zo_liesIn_f n p o y1 x2 h) n o y1 x2 h else none) = _
  rw [if_pos rfl]
theorem Zo_liesIn_e34 (n : Nat) (o : Nat) (y1 : Option Nat) (x2 : Int32) (h : xH) : Zo_liesIn_f (n + 1) 34 o y1 x2 h = Zo_liesIn_t34 (fun p y1 x2 h => Zo_liesIn_f n p o y1 x2 h) n o y1 x2 h := by
  show (if 34 = 0 then Zo_liesIn_t0 (fun p y1 x2 h => Zo_liesIn_f n p o y1 x2 h) n o y1 x2 h else if 34 = 34 then Zo_liesIn_t34 (fun p y1 x2 h => Zo_liesIn_f n p o y1 x2 h) n o y1 x2 h else none) = _
  rw [if_neg (by decide), if_pos rfl]
set_option maxRecDepth 100000 in
set_option maxHeartbeats 8000000 in
theorem Zo_liesIn_x {F : xF} {G : xG} {B sz : Nat} {o : Nat} (C : xC F G B cZo_liesIn RZo 3 0 0 0 0) (hr : (xFM F).sig.returnType = (some .boolean)) : ∀ (n : Nat) (y1 : Option Nat) (x2 : Int32) (h : xH) (R : Int32 × xH), (Zo_liesIn_f n 0 o y1 x2 h = some R → X F G B (xZ F G B (kP (some (.int R.1)) R.2 sz) 0 0) 3 h sz 0 0 0 [(0, .ref (o)), (1, va_rf (y1))] []) ∧ (Zo_liesIn_f n 34 o y1 x2 h = some R → X F G B (xZ F G B (kP (some (.int R.1)) R.2 sz) 0 0) 3 h sz 0 0 34 [(0, .ref (o)), (1, va_rf (y1)), (2, .int (x2))] []) := by
  intro n
  induction n with
  | zero => exact fun _ _ _ _ => ⟨(fun hR => nomatch (show (none : Option _) = some _ from hR)), (fun hR => nomatch (show (none : Option _) = some _ from hR))⟩
  | succ n ih =>
    intro y1 x2 h R
    refine ⟨fun hR => ?_, fun hR => ?_⟩
    · rw [Zo_liesIn_e0] at hR
      unfold Zo_liesIn_t0 at hR
      refine X_aload_n C dZo_liesIn_0 rfl ?_
      have hq := o_bind hR
      clear hR
      obtain ⟨u1, hx5, hR⟩ := hq
      obtain ⟨fs2, he3, hv4⟩ := gi_e hx5
      refine X_get (k := 2) C oZo fwZo_26 he3 hv4 dZo_liesIn_1 ?_
      refine X_if_ne (tgt := 14) C dZo_liesIn_4 (by decide) (fun c6 => ?_) (fun c6 => ?_)
      · rw [if_neg c6] at hR
        refine X_aload_n C dZo_liesIn_14 rfl ?_
        have hq := o_bind hR
        clear hR
        obtain ⟨u7, hx11, hR⟩ := hq
        obtain ⟨fs8, he9, hv10⟩ := gi_e hx11
        refine X_get (k := 2) C oZo fwZo_26 he9 hv10 dZo_liesIn_15 ?_
        have hq := o_if hR
        clear hR
        obtain ⟨b12, hR⟩ := hq
        rw [← Option.some.inj hR]
        exact X_zret C hr (zb_n b12) (Nat.le_refl _) (Nat.le_refl _) dZo_liesIn_18 ⟨rfl, rfl, rfl⟩
      · rw [if_pos c6] at hR
        refine X_aload_nq C dZo_liesIn_7 rfl ?_
        have hq := o_bind hR
        clear hR
        obtain ⟨a13, rfl, hR⟩ := hq
        have hq := o_bind hR
        clear hR
        obtain ⟨u14, hx18, hR⟩ := hq
        obtain ⟨fs15, he16, hv17⟩ := gi_e hx18
        refine X_get (k := 2) C oZo fwZo_26 he16 hv17 dZo_liesIn_8 ?_
        refine X_if_eq (tgt := 19) C dZo_liesIn_11 (by decide) (fun c19 => ?_) (fun c19 => ?_)
        · rw [if_pos c19] at hR
          refine X_aload_n C dZo_liesIn_19 rfl ?_
          have hq := o_bind hR
          clear hR
          obtain ⟨u20, hx24, hR⟩ := hq
          obtain ⟨fs21, he22, hv23⟩ := gi_e hx24
          refine X_get (k := 0) C oZo fwZo_9 he22 hv23 dZo_liesIn_20 ?_
          refine X_aload_n C dZo_liesIn_23 rfl ?_
          have hq := o_bind hR
          clear hR
          obtain ⟨u25, hx29, hR⟩ := hq
          obtain ⟨fs26, he27, hv28⟩ := gi_e hx29
          refine X_get (k := 0) C oZo fwZo_9 he27 hv28 dZo_liesIn_24 ?_
          refine X_icmp_eq (tgt := 32) C dZo_liesIn_27 (by decide) (fun c30 => ?_) (fun c30 => ?_)
          · rw [if_pos c30] at hR
            refine X_iconst (v := 0) C dZo_liesIn_32 rfl ?_
            refine X_istore_n (lv' := [(2, .int ((0 : Int32))), (0, .ref (o)), (1, .ref (a13))]) C dZo_liesIn_33 (by decide) rfl ?_
            refine X_sub (lv' := [(0, .ref (o)), (1, va_rf ((some (a13)))), (2, .int ((0 : Int32)))]) [1, 2, 0] rfl ?_
            exact (ih (some (a13)) ((0 : Int32)) _ _).2 hR
          · rw [if_neg c30] at hR
            refine X_iconst (v := 0) C dZo_liesIn_30 rfl ?_
            rw [← Option.some.inj hR]
            exact X_zret C hr rfl (Nat.le_refl _) (Nat.le_refl _) dZo_liesIn_31 ⟨rfl, rfl, rfl⟩
        · rw [if_neg c19] at hR
          refine X_aload_n C dZo_liesIn_14 rfl ?_
          have hq := o_bind hR
          clear hR
          obtain ⟨u31, hx35, hR⟩ := hq
          obtain ⟨fs32, he33, hv34⟩ := gi_e hx35
          refine X_get (k := 2) C oZo fwZo_26 he33 hv34 dZo_liesIn_15 ?_
          have hq := o_if hR
          clear hR
          obtain ⟨b36, hR⟩ := hq
          rw [← Option.some.inj hR]
          exact X_zret C hr (zb_n b36) (Nat.le_refl _) (Nat.le_refl _) dZo_liesIn_18 ⟨rfl, rfl, rfl⟩
    · rw [Zo_liesIn_e34] at hR
      unfold Zo_liesIn_t34 at hR
      refine X_iload_n C dZo_liesIn_34 rfl ?_
      refine X_aload_n C dZo_liesIn_35 rfl ?_
      have hq := o_bind hR
      clear hR
      obtain ⟨w37, hx41, hR⟩ := hq
      obtain ⟨fs38, he39, hv40⟩ := gq_e hx41
      refine X_get (k := 1) C oZo fwZo_15 he39 hv40 dZo_liesIn_36 ?_
      have hq := o_bind hR
      clear hR
      obtain ⟨a42, rfl, hR⟩ := hq
      have hq := o_bind hR
      clear hR
      obtain ⟨u43, hx44, hR⟩ := hq
      obtain ⟨v45, he46, e47⟩ := al_e hx44
      refine X_alen C rfl he46 e47 dZo_liesIn_39 ?_
      refine X_icmp_ge (tgt := 66) C dZo_liesIn_40 (by decide) (fun c48 => ?_) (fun c48 => ?_)
      · rw [if_pos c48] at hR
        refine X_iconst (v := 1) C dZo_liesIn_66 rfl ?_
        rw [← Option.some.inj hR]
        exact X_zret C hr rfl (Nat.le_refl _) (Nat.le_refl _) dZo_liesIn_67 ⟨rfl, rfl, rfl⟩
      · rw [if_neg c48] at hR
        refine X_aload_n C dZo_liesIn_43 rfl ?_
        have hq := o_bind hR
        clear hR
        obtain ⟨w49, hx53, hR⟩ := hq
        obtain ⟨fs50, he51, hv52⟩ := gq_e hx53
        refine X_get (k := 1) C oZo fwZo_15 he51 hv52 dZo_liesIn_44 ?_
        refine X_iload_n C dZo_liesIn_47 rfl ?_
        have hq := o_bind hR
        clear hR
        obtain ⟨a54, rfl, hR⟩ := hq
        have hq := o_bind hR
        clear hR
        obtain ⟨u55, hx56, hR⟩ := hq
        obtain ⟨n57, f58, he59, hi60, e61⟩ := ai_e hx56
        refine X_iald C rfl he59 hi60 dZo_liesIn_48 ?_
        rw [← e61]
        refine X_aload_nq C dZo_liesIn_49 rfl ?_
        have hq := o_bind hR
        clear hR
        obtain ⟨a62, rfl, hR⟩ := hq
        have hq := o_bind hR
        clear hR
        obtain ⟨w63, hx67, hR⟩ := hq
        obtain ⟨fs64, he65, hv66⟩ := gq_e hx67
        refine X_get (k := 1) C oZo fwZo_15 he65 hv66 dZo_liesIn_50 ?_
        refine X_iload_n C dZo_liesIn_53 rfl ?_
        have hq := o_bind hR
        clear hR
        obtain ⟨a68, rfl, hR⟩ := hq
        have hq := o_bind hR
        clear hR
        obtain ⟨u69, hx70, hR⟩ := hq
        obtain ⟨n71, f72, he73, hi74, e75⟩ := ai_e hx70
        refine X_iald C rfl he73 hi74 dZo_liesIn_54 ?_
        rw [← e75]
        refine X_icmp_le (tgt := 60) C dZo_liesIn_55 (by decide) (fun c76 => ?_) (fun c76 => ?_)
        · rw [if_pos c76] at hR
          refine X_iinc (v := x2 + 1) (lv' := [(2, .int (x2 + 1)), (0, .ref (o)), (1, .ref (a62))]) C dZo_liesIn_60 rfl rfl (by decide) rfl ?_
          refine X_goto (tgt := 34) C dZo_liesIn_63 (by decide) ?_
          refine X_sub (lv' := [(0, .ref (o)), (1, va_rf ((some (a62)))), (2, .int (x2 + 1))]) [1, 2, 0] rfl ?_
          exact (ih (some (a62)) (x2 + 1) _ _).2 hR
        · rw [if_neg c76] at hR
          refine X_iconst (v := 0) C dZo_liesIn_58 rfl ?_
          rw [← Option.some.inj hR]
          exact X_zret C hr rfl (Nat.le_refl _) (Nat.le_refl _) dZo_liesIn_59 ⟨rfl, rfl, rfl⟩
theorem Zo_liesIn_c {l : Launch} {G : xG} {B sz : Nat} {o : Nat} {n : Nat} {y1 : Option Nat} {h : xH} {R : Int32 × xH} (hR : Zo_liesIn_f n 0 o y1 0 h = some R) : xCon l yZo_liesIn cZo_liesIn 3 (some .boolean) 0 0 0 0 G B [.ref (o), va_rf (y1)] h sz (kP (some (.int R.1)) R.2 sz) := xCon.of (by decide) (by simp [lg_sl, rf_cat, cat_i, cat_r, cat_l]) (fun F e C hr hnm => X_sub (lv' := [(0, .ref (o)), (1, va_rf (y1))]) [0, 1] (by simp [lv_args, lv_pick, rf_cat, cat_i, cat_r, cat_l]) ((Zo_liesIn_x C hr n y1 0 h R).1 hR))
def Ya_isCovered_t0 (f : Nat → Int32 → xH → Option (Int32 × xH)) (n : Nat) (o : Nat) (x1 : Int32) (h : xH) : Option (Int32 × xH) := f 2 ((0 : Int32)) h
def Ya_isCovered_t2 (f : Nat → Int32 → xH → Option (Int32 × xH)) (n : Nat) (o : Nat) (x1 : Int32) (h : xH) : Option (Int32 × xH) := obd (gi h (o) 3 3) (fun u1 => (if u1 ≤ x1 then some ((0 : Int32), h) else (if kc h (o) 3 = true then obd (Ya_stateAt_f n (o) (x1) h) (fun r7 => bnd (r7.1) (fun w8 => oel (w8) (f 2 (x1 + 1) r7.2) (fun a10 => obd (gq r7.2 (o) 3 10) (fun w12 => (if kc r7.2 (a10) 2 = true then obd (St_standsAt_f n 0 (a10) (w12) 0 r7.2) (fun r17 => (if r17.1 = 0 then f 2 (x1 + 1) r17.2 else obd (gq r17.2 (o) 3 11) (fun w19 => obd (gq r17.2 (a10) 2 3) (fun w24 => obd w19 (fun a29 => (if kc r17.2 (a29) 1 = true then obd (Zo_liesIn_f n 0 (a29) (w24) 0 r17.2) (fun r30 => (if r30.1 = 0 then f 2 (x1 + 1) r30.2 else some ((1 : Int32), r30.2))) else none)))))) else none))))) else none)))
def Ya_isCovered_f : Nat → Nat → Nat → Int32 → xH → Option (Int32 × xH)
  | 0 => fun _ _ _ _ => none
  | n + 1 => fun p o x1 h => if p = 0 then Ya_isCovered_t0 (fun p x1 h => Ya_isCovered_f n p o x1 h) n o x1 h else if p = 2 then Ya_isCovered_t2 (fun p x1 h => Ya_isCovered_f n p o x1 h) n o x1 h else none
theorem Ya_isCovered_e0 (n : Nat) (o : Nat) (x1 : Int32) (h : xH) : Ya_isCovered_f (n + 1) 0 o x1 h = Ya_isCovered_t0 (fun p x1 h => Ya_isCovered_f n p o x1 h) n o x1 h := by
  show (if 0 = 0 then Ya_isCovered_t0 (fun p x1 h => Ya_isCovered_f n p o x1 h) n o x1 h else if 0 = 2 then Ya_isCovered_t2 (fun p x1 h => Ya_isCovered_f n p o x1 h) n o x1 h else none) = _
  rw [if_pos rfl]
theorem Ya_isCovered_e2 (n : Nat) (o : Nat) (x1 : Int32) (h : xH) : Ya_isCovered_f (n + 1) 2 o x1 h = Ya_isCovered_t2 (fun p x1 h => Ya_isCovered_f n p o x1 h) n o x1 h := by
  show (if 2 = 0 then Ya_isCovered_t0 (fun p x1 h => Ya_isCovered_f n p o x1 h) n o x1 h else if 2 = 2 then Ya_isCovered_t2 (fun p x1 h => Ya_isCovered_f n p o x1 h) n o x1 h else none) = _
  rw [if_neg (by decide), if_pos rfl]
set_option maxRecDepth 100000 in
set_option maxHeartbeats 8000000 in
theorem Ya_isCovered_x {F : xF} {G : xG} {B sz : Nat} {o : Nat} (C : xC F G B cYa_isCovered RYa 3 1 22 0 0) (hr : (xFM F).sig.returnType = (some .boolean)) : ∀ (n : Nat) (x1 : Int32) (h : xH) (R : Int32 × xH), (Ya_isCovered_f n 0 o x1 h = some R → X F G B (xZ F G B (kP (some (.int R.1)) R.2 sz) 0 0) 3 h sz 0 0 0 [(0, .ref (o))] []) ∧ (Ya_isCovered_f n 2 o x1 h = some R → X F G B (xZ F G B (kP (some (.int R.1)) R.2 sz) 0 0) 3 h sz 0 0 2 [(0, .ref (o)), (1, .int (x1))] []) := by
  intro n
  induction n with
  | zero => exact fun _ _ _ => ⟨(fun hR => nomatch (show (none : Option _) = some _ from hR)), (fun hR => nomatch (show (none : Option _) = some _ from hR))⟩
  | succ n ih =>
    intro x1 h R
    refine ⟨fun hR => ?_, fun hR => ?_⟩
    · rw [Ya_isCovered_e0] at hR
      unfold Ya_isCovered_t0 at hR
      refine X_iconst (v := 0) C dYa_isCovered_0 rfl ?_
      refine X_istore_n (lv' := [(1, .int ((0 : Int32))), (0, .ref (o))]) C dYa_isCovered_1 (by decide) rfl ?_
      refine X_sub (lv' := [(0, .ref (o)), (1, .int ((0 : Int32)))]) [1, 0] rfl ?_
      exact (ih ((0 : Int32)) _ _).2 hR
    · rw [Ya_isCovered_e2] at hR
      unfold Ya_isCovered_t2 at hR
      refine X_iload_n C dYa_isCovered_2 rfl ?_
      refine X_aload_n C dYa_isCovered_3 rfl ?_
      have hq := o_bind hR
      clear hR
      obtain ⟨u1, hx5, hR⟩ := hq
      obtain ⟨fs2, he3, hv4⟩ := gi_e hx5
      refine X_get (k := 3) C oYa fwYa_65 he3 hv4 dYa_isCovered_4 ?_
      refine X_icmp_ge (tgt := 53) C dYa_isCovered_7 (by decide) (fun c6 => ?_) (fun c6 => ?_)
      · rw [if_pos c6] at hR
        refine X_iconst (v := 0) C dYa_isCovered_53 rfl ?_
        rw [← Option.some.inj hR]
        exact X_zret C hr rfl (Nat.le_refl _) (Nat.le_refl _) dYa_isCovered_54 ⟨rfl, rfl, rfl⟩
      · rw [if_neg c6] at hR
        refine X_aload_n C dYa_isCovered_10 rfl ?_
        refine X_iload_n C dYa_isCovered_11 rfl ?_
        have hq := o_if hR
        clear hR
        obtain ⟨k38, hR⟩ := hq
        obtain ⟨fs39, he40⟩ := kc_e k38
        have hq := o_bind hR
        clear hR
        obtain ⟨r7, hr7, hR⟩ := hq
        refine X_callVk (As := [.int (x1)]) (rest := []) C (Ya_stateAt_c hr7) wYa_236 ⟨by decide, by decide⟩ ⟨Nat.le_refl _, Nat.le_refl _⟩ he40 oYa.2.1 rfl rfl (Nat.le_of_ble_eq_true rfl) dYa_isCovered_12 ?_
        show X F G B _ 3 (r7.2) _ _ _ _ _ [va_rf (r7.1)]
        have hq := b_bnd hR
        clear hR
        obtain ⟨w8, e9, hR⟩ := hq
        rw [← e9]
        refine X_astore_nq (lv' := [(2, va_rf (w8)), (0, .ref (o)), (1, .int (x1))]) C dYa_isCovered_15 (by decide) rfl ?_
        refine X_aload_nq C dYa_isCovered_16 rfl ?_
        refine X_ifnullq (tgt := 47) C dYa_isCovered_17 (by decide) (fun e11 => ?_) (fun a10 e11 => ?_)
        · subst e11
          rw [oel_n] at hR
          refine X_iinc (v := x1 + 1) (lv' := [(1, .int (x1 + 1)), (2, .null), (0, .ref (o))]) C dYa_isCovered_47 rfl rfl (by decide) rfl ?_
          refine X_goto (tgt := 2) C dYa_isCovered_50 (by decide) ?_
          refine X_sub (lv' := [(0, .ref (o)), (1, .int (x1 + 1))]) [2, 0] rfl ?_
          exact (ih (x1 + 1) _ _).2 hR
        · subst e11
          rw [oel_s] at hR
          refine X_aload_n C dYa_isCovered_20 rfl ?_
          refine X_aload_n C dYa_isCovered_21 rfl ?_
          have hq := o_bind hR
          clear hR
          obtain ⟨w12, hx16, hR⟩ := hq
          obtain ⟨fs13, he14, hv15⟩ := gq_e hx16
          refine X_get (k := 10) C oYa fwYa_31 he14 hv15 dYa_isCovered_22 ?_
          have hq := o_if hR
          clear hR
          obtain ⟨k35, hR⟩ := hq
          obtain ⟨fs36, he37⟩ := kc_e k35
          have hq := o_bind hR
          clear hR
          obtain ⟨r17, hr17, hR⟩ := hq
          refine X_callVk (As := [va_rf (w12)]) (rest := []) C (St_standsAt_c hr17) wYa_240 ⟨by decide, by decide⟩ ⟨Nat.le_refl _, Nat.le_refl _⟩ he37 oSt.2.1 rfl rfl (Nat.le_of_ble_eq_true rfl) dYa_isCovered_25 ?_
          show X F G B _ 3 (r17.2) _ _ _ _ _ [.int (r17.1)]
          refine X_if_eq (tgt := 47) C dYa_isCovered_28 (by decide) (fun c18 => ?_) (fun c18 => ?_)
          · rw [if_pos c18] at hR
            refine X_iinc (v := x1 + 1) (lv' := [(1, .int (x1 + 1)), (2, .ref (a10)), (0, .ref (o))]) C dYa_isCovered_47 rfl rfl (by decide) rfl ?_
            refine X_goto (tgt := 2) C dYa_isCovered_50 (by decide) ?_
            refine X_sub (lv' := [(0, .ref (o)), (1, .int (x1 + 1))]) [2, 0] rfl ?_
            exact (ih (x1 + 1) _ _).2 hR
          · rw [if_neg c18] at hR
            refine X_aload_n C dYa_isCovered_31 rfl ?_
            have hq := o_bind hR
            clear hR
            obtain ⟨w19, hx23, hR⟩ := hq
            obtain ⟨fs20, he21, hv22⟩ := gq_e hx23
            refine X_get (k := 11) C oYa fwYa_39 he21 hv22 dYa_isCovered_32 ?_
            refine X_aload_n C dYa_isCovered_35 rfl ?_
            have hq := o_bind hR
            clear hR
            obtain ⟨w24, hx28, hR⟩ := hq
            obtain ⟨fs25, he26, hv27⟩ := gq_e hx28
            refine X_get (k := 3) C oSt fwYa_114 he26 hv27 dYa_isCovered_36 ?_
            have hq := o_bind hR
            clear hR
            obtain ⟨a29, rfl, hR⟩ := hq
            have hq := o_if hR
            clear hR
            obtain ⟨k32, hR⟩ := hq
            obtain ⟨fs33, he34⟩ := kc_e k32
            have hq := o_bind hR
            clear hR
            obtain ⟨r30, hr30, hR⟩ := hq
            refine X_callVk (As := [va_rf (w24)]) (rest := []) C (Zo_liesIn_c hr30) wYa_244 ⟨by decide, by decide⟩ ⟨Nat.le_refl _, Nat.le_refl _⟩ he34 oZo.2.1 rfl rfl (Nat.le_of_ble_eq_true rfl) dYa_isCovered_39 ?_
            show X F G B _ 3 (r30.2) _ _ _ _ _ [.int (r30.1)]
            refine X_if_eq (tgt := 47) C dYa_isCovered_42 (by decide) (fun c31 => ?_) (fun c31 => ?_)
            · rw [if_pos c31] at hR
              refine X_iinc (v := x1 + 1) (lv' := [(1, .int (x1 + 1)), (2, .ref (a10)), (0, .ref (o))]) C dYa_isCovered_47 rfl rfl (by decide) rfl ?_
              refine X_goto (tgt := 2) C dYa_isCovered_50 (by decide) ?_
              refine X_sub (lv' := [(0, .ref (o)), (1, .int (x1 + 1))]) [2, 0] rfl ?_
              exact (ih (x1 + 1) _ _).2 hR
            · rw [if_neg c31] at hR
              refine X_iconst (v := 1) C dYa_isCovered_45 rfl ?_
              rw [← Option.some.inj hR]
              exact X_zret C hr rfl (Nat.le_refl _) (Nat.le_refl _) dYa_isCovered_46 ⟨rfl, rfl, rfl⟩
theorem Ya_isCovered_c {l : Launch} {G : xG} {B sz : Nat} {o : Nat} {n : Nat} {h : xH} {R : Int32 × xH} (hR : Ya_isCovered_f n 0 o 0 h = some R) : xCon l yYa_isCovered cYa_isCovered 3 (some .boolean) 1 22 0 0 G B [.ref (o)] h sz (kP (some (.int R.1)) R.2 sz) := xCon.of (by decide) (by exact Nat.le_of_ble_eq_true rfl) (fun F e C hr hnm => X_sub (lv' := [(0, .ref (o))]) [0] rfl ((Ya_isCovered_x C hr n 0 h R).1 hR))
def Ya_leastTotal_f (n : Nat) (y0 : Option Nat) (h : xH) : Option (Int32 × xH) := obd y0 (fun a1 => (if kc h (a1) 1 = true then obd (Zo_at_f n (a1) ((0 : Int32)) ((4 : Int32)) h) (fun r2 => (if (r2.1) &&& ((1 : Int32)) = (1 : Int32) then some (((2 : Int32)) * (-((r2.1) >>> (((1 : Int32)) &&& 31))), r2.2) else some ((((2 : Int32)) * (-((r2.1) >>> (((1 : Int32)) &&& 31)))) + ((1 : Int32)), r2.2))) else none))
set_option maxRecDepth 100000 in
set_option maxHeartbeats 8000000 in
theorem Ya_leastTotal_x {F : xF} {G : xG} {B sz : Nat} (C : xC F G B cYa_leastTotal RYa 3 1 22 0 0) (hr : (xFM F).sig.returnType = (some .int)) {n : Nat} {y0 : Option Nat} {h : xH} {R : Int32 × xH} (hR : Ya_leastTotal_f n y0 h = some R) : X F G B (xZ F G B (kP (some (.int R.1)) R.2 sz) 0 0) 3 h sz 0 0 0 [(0, va_rf (y0))] [] := by
  unfold Ya_leastTotal_f at hR
  refine X_aload_nq C dYa_leastTotal_0 rfl ?_
  refine X_iconst (v := 0) C dYa_leastTotal_1 rfl ?_
  refine X_iconst (v := 4) C dYa_leastTotal_2 rfl ?_
  have hq := o_bind hR
  clear hR
  obtain ⟨a1, rfl, hR⟩ := hq
  have hq := o_if hR
  clear hR
  obtain ⟨k4, hR⟩ := hq
  obtain ⟨fs5, he6⟩ := kc_e k4
  have hq := o_bind hR
  clear hR
  obtain ⟨r2, hr2, hR⟩ := hq
  refine X_callVk (As := [.int ((0 : Int32)), .int ((4 : Int32))]) (rest := []) C (Zo_at_c hr2) wYa_266 ⟨by decide, by decide⟩ ⟨Nat.le_refl _, Nat.le_refl _⟩ he6 oZo.2.1 rfl rfl (Nat.le_of_ble_eq_true rfl) dYa_leastTotal_3 ?_
  show X F G B _ 3 (r2.2) _ _ _ _ _ [.int (r2.1)]
  refine X_istore_n (lv' := [(1, .int (r2.1)), (0, .ref (a1))]) C dYa_leastTotal_6 (by decide) rfl ?_
  refine X_iload_n C dYa_leastTotal_7 rfl ?_
  refine X_iconst (v := 1) C dYa_leastTotal_8 rfl ?_
  refine X_ishr C dYa_leastTotal_9 ?_
  refine X_ineg C dYa_leastTotal_10 ?_
  refine X_istore_n (lv' := [(2, .int (-((r2.1) >>> (((1 : Int32)) &&& 31)))), (1, .int (r2.1)), (0, .ref (a1))]) C dYa_leastTotal_11 (by decide) rfl ?_
  refine X_iload_n C dYa_leastTotal_12 rfl ?_
  refine X_iconst (v := 1) C dYa_leastTotal_13 rfl ?_
  refine X_iand C dYa_leastTotal_14 ?_
  refine X_iconst (v := 1) C dYa_leastTotal_15 rfl ?_
  refine X_icmp_ne (tgt := 25) C dYa_leastTotal_16 (by decide) (fun c3 => ?_) (fun c3 => ?_)
  · rw [if_neg c3] at hR
    refine X_iconst (v := 2) C dYa_leastTotal_25 rfl ?_
    refine X_iload_n C dYa_leastTotal_26 rfl ?_
    refine X_imul C dYa_leastTotal_27 ?_
    refine X_iconst (v := 1) C dYa_leastTotal_28 rfl ?_
    refine X_iadd C dYa_leastTotal_29 ?_
    rw [← Option.some.inj hR]
    exact X_iret C hr (Nat.le_refl _) (Nat.le_refl _) dYa_leastTotal_30 ⟨rfl, rfl, rfl⟩
  · rw [if_pos c3] at hR
    refine X_iconst (v := 2) C dYa_leastTotal_19 rfl ?_
    refine X_iload_n C dYa_leastTotal_20 rfl ?_
    refine X_imul C dYa_leastTotal_21 ?_
    refine X_goto (tgt := 30) C dYa_leastTotal_22 (by decide) ?_
    rw [← Option.some.inj hR]
    exact X_iret C hr (Nat.le_refl _) (Nat.le_refl _) dYa_leastTotal_30 ⟨rfl, rfl, rfl⟩
theorem Ya_leastTotal_c {l : Launch} {G : xG} {B sz : Nat} {n : Nat} {y0 : Option Nat} {h : xH} {R : Int32 × xH} (hR : Ya_leastTotal_f n y0 h = some R) : xCon l yYa_leastTotal cYa_leastTotal 3 (some .int) 1 22 0 0 G B [va_rf (y0)] h sz (kP (some (.int R.1)) R.2 sz) := xCon.of (by decide) (by simp [lg_sl, rf_cat, cat_i, cat_r, cat_l]) (fun F e C hr hnm => X_sub (lv' := [(0, va_rf (y0))]) [0] (by simp [lv_args, lv_pick, rf_cat, cat_i, cat_r, cat_l]) (Ya_leastTotal_x C hr hR))
def Ya_tryMove_f (n : Nat) (o : Nat) (y1 : Option Nat) (x2 : Int32) (x3 : Int32) (x4 : Int32) (x5 : Int32) (h : xH) (z : Nat) : Option (Int32 × xH × Nat × Nat) := (if kc h (o) 3 = true then obd (Ya_wayAt_f n (o) (x2) (x3) h) (fun r1 => bnd (r1.1) (fun w2 => (if kc r1.2 (o) 3 = true then obd (Ya_wayAt_f n (o) (x4) (x5) r1.2) (fun r4 => bnd (r4.1) (fun w5 => oel (w2) (some ((1 : Int32), r4.2, 0, 0)) (fun a7 => obd y1 (fun a9 => obd (gq r4.2 (a9) 2 1) (fun w10 => obd (gq r4.2 (o) 3 10) (fun w15 => obd w10 (fun a20 => obd w15 (fun a21 => obd (cpi r4.2 (a20) ((0 : Int32)) (a21) ((0 : Int32)) ((3 : Int32))) (fun h22 => obd (gq h22 (o) 3 10) (fun w36 => obd (gi h22 (a7) 7 1) (fun u41 => obd w36 (fun a46 => obd (pa h22 (a46) 0 (x2) (u41)) (fun h47 => oel (w5) (obd (gq h47 (o) 3 11) (fun w56 => obd (gq h47 (a9) 2 3) (fun w61 => obd w56 (fun a66 => (if kc h47 (a66) 1 = true then obd (Zo_becomeAs_f n (a66) (w61) h47) (fun r67 => obd (gq r67.2 (o) 3 11) (fun w68 => (if kc r67.2 (o) 3 = true then obd (Ya_follow_f n (o) (w68) (some (a7)) none r67.2) (fun r73 => obd (gq r73.2 (o) 3 11) (fun w74 => (if kc r73.2 (o) 3 = true then obd (Ya_stay_f n (o) (w74) r73.2) (fun r79 => obd (gq r79.2 (o) 3 11) (fun w80 => obd w80 (fun a85 => obd (gi r79.2 (a85) 1 2) (fun u86 => (if u86 = 0 then obd (gi r79.2 (a9) 2 7) (fun u92 => obd (pf r79.2 (a9) 2 7 (.int ((u92) + ((1 : Int32))))) (fun h97 => obd (gi h97 (o) 3 8) (fun u103 => (if u103 = 0 then (if kc h97 (o) 3 = true then obd (Ya_isCovered_f n 0 (o) 0 h97) (fun r109 => (if r109.1 = 0 then obd (gi r109.2 (o) 3 3) (fun u111 => (if u111 < (200 : Int32) then (if kc r109.2 (o) 3 = true then obd (Ya_newState_f n (o) (some (a9)) r109.2 (z)) (fun r117 => oadd r117.2.2.1 r117.2.2.2 (bnd (r117.1) (fun w118 => obd w118 (fun a120 => obd (gq r117.2.1 (a120) 2 3) (fun w121 => obd (gq r117.2.1 (o) 3 11) (fun w126 => obd w121 (fun a131 => (if kc r117.2.1 (a131) 1 = true then obd (Zo_becomeAs_f n (a131) (w126) r117.2.1) (fun r132 => obd (gq r132.2 (a120) 2 4) (fun w133 => obd (gq r132.2 (a9) 2 4) (fun w138 => obd w133 (fun a143 => (if kc r132.2 (a143) 1 = true then obd (Zo_becomeAs_f n (a143) (w138) r132.2) (fun r144 => obd (gq r144.2 (a120) 2 4) (fun w145 => (if kc r144.2 (o) 3 = true then obd (Ya_follow_f n (o) (w145) (some (a7)) none r144.2) (fun r150 => obd (gq r150.2 (a120) 2 4) (fun w151 => obd (Ya_leastTotal_f n (w151) r150.2) (fun r156 => obd (pf r156.2 (a120) 2 10 (.int (r156.1))) (fun h157 => obd (gq h157 (a120) 2 4) (fun w163 => (if kc h157 (o) 3 = true then obd (Ya_stay_f n (o) (w163) h157) (fun r168 => obd (gq r168.2 (a120) 2 2) (fun w169 => obd w169 (fun a174 => obd (pa r168.2 (a174) 0 ((0 : Int32)) (x2)) (fun h175 => obd (gq h175 (a120) 2 2) (fun w182 => obd w182 (fun a187 => obd (pa h175 (a187) 0 ((1 : Int32)) (x3)) (fun h188 => obd (gq h188 (a120) 2 2) (fun w195 => obd w195 (fun a200 => obd (pa h188 (a200) 0 ((2 : Int32)) (x4)) (fun h201 => obd (gq h201 (a120) 2 2) (fun w208 => obd w208 (fun a213 => obd (pa h201 (a213) 0 ((3 : Int32)) (x5)) (fun h214 => some ((1 : Int32), h214, 0, 0)))))))))))))) else none)))))) else none))) else none))))) else none)))))))) else none) else some ((0 : Int32), r109.2, 0, 0))) else obd (gi r109.2 (a9) 2 8) (fun u238 => obd (pf r109.2 (a9) 2 8 (.int ((u238) + ((1 : Int32))))) (fun h243 => some ((1 : Int32), h243, 0, 0))))) else none) else obd (gq h97 (o) 3 11) (fun w252 => obd (gq h97 (o) 3 9) (fun w257 => obd w252 (fun a262 => (if kc h97 (a262) 1 = true then obd (Zo_loosen_f n 0 (a262) (w257) 0 0 0 h97) (fun r263 => (if kc r263.2 (o) 3 = true then obd (Ya_isCovered_f n 0 (o) 0 r263.2) (fun r264 => (if r264.1 = 0 then obd (gi r264.2 (o) 3 3) (fun u266 => (if u266 < (200 : Int32) then (if kc r264.2 (o) 3 = true then obd (Ya_newState_f n (o) (some (a9)) r264.2 (z)) (fun r272 => oadd r272.2.2.1 r272.2.2.2 (bnd (r272.1) (fun w273 => obd w273 (fun a275 => obd (gq r272.2.1 (a275) 2 3) (fun w276 => obd (gq r272.2.1 (o) 3 11) (fun w281 => obd w276 (fun a286 => (if kc r272.2.1 (a286) 1 = true then obd (Zo_becomeAs_f n (a286) (w281) r272.2.1) (fun r287 => obd (gq r287.2 (a275) 2 4) (fun w288 => obd (gq r287.2 (a9) 2 4) (fun w293 => obd w288 (fun a298 => (if kc r287.2 (a298) 1 = true then obd (Zo_becomeAs_f n (a298) (w293) r287.2) (fun r299 => obd (gq r299.2 (a275) 2 4) (fun w300 => (if kc r299.2 (o) 3 = true then obd (Ya_follow_f n (o) (w300) (some (a7)) none r299.2) (fun r305 => obd (gq r305.2 (a275) 2 4) (fun w306 => obd (Ya_leastTotal_f n (w306) r305.2) (fun r311 => obd (pf r311.2 (a275) 2 10 (.int (r311.1))) (fun h312 => obd (gq h312 (a275) 2 4) (fun w318 => (if kc h312 (o) 3 = true then obd (Ya_stay_f n (o) (w318) h312) (fun r323 => obd (gq r323.2 (a275) 2 2) (fun w324 => obd w324 (fun a329 => obd (pa r323.2 (a329) 0 ((0 : Int32)) (x2)) (fun h330 => obd (gq h330 (a275) 2 2) (fun w337 => obd w337 (fun a342 => obd (pa h330 (a342) 0 ((1 : Int32)) (x3)) (fun h343 => obd (gq h343 (a275) 2 2) (fun w350 => obd w350 (fun a355 => obd (pa h343 (a355) 0 ((2 : Int32)) (x4)) (fun h356 => obd (gq h356 (a275) 2 2) (fun w363 => obd w363 (fun a368 => obd (pa h356 (a368) 0 ((3 : Int32)) (x5)) (fun h369 => some ((1 : Int32), h369, 0, 0)))))))))))))) else none)))))) else none))) else none))))) else none)))))))) else none) else some ((0 : Int32), r264.2, 0, 0))) else obd (gi r264.2 (a9) 2 8) (fun u393 => obd (pf r264.2 (a9) 2 8 (.int ((u393) + ((1 : Int32))))) (fun h398 => some ((1 : Int32), h398, 0, 0))))) else none)) else none)))))))) else some ((1 : Int32), r79.2, 0, 0)))))) else none))) else none))) else none))))) (fun a54 => obd (gq h47 (o) 3 10) (fun w419 => obd (gi h47 (a54) 7 1) (fun u424 => obd w419 (fun a429 => obd (pa h47 (a429) 0 (x4) (u424)) (fun h430 => obd (gq h430 (o) 3 11) (fun w437 => obd (gq h430 (a9) 2 3) (fun w442 => obd w437 (fun a447 => (if kc h430 (a447) 1 = true then obd (Zo_becomeAs_f n (a447) (w442) h430) (fun r448 => obd (gq r448.2 (o) 3 11) (fun w449 => (if kc r448.2 (o) 3 = true then obd (Ya_follow_f n (o) (w449) (some (a7)) (some (a54)) r448.2) (fun r454 => obd (gq r454.2 (o) 3 11) (fun w455 => (if kc r454.2 (o) 3 = true then obd (Ya_stay_f n (o) (w455) r454.2) (fun r460 => obd (gq r460.2 (o) 3 11) (fun w461 => obd w461 (fun a466 => obd (gi r460.2 (a466) 1 2) (fun u467 => (if u467 = 0 then obd (gi r460.2 (a9) 2 7) (fun u473 => obd (pf r460.2 (a9) 2 7 (.int ((u473) + ((1 : Int32))))) (fun h478 => obd (gi h478 (o) 3 8) (fun u484 => (if u484 = 0 then (if kc h478 (o) 3 = true then obd (Ya_isCovered_f n 0 (o) 0 h478) (fun r490 => (if r490.1 = 0 then obd (gi r490.2 (o) 3 3) (fun u492 => (if u492 < (200 : Int32) then (if kc r490.2 (o) 3 = true then obd (Ya_newState_f n (o) (some (a9)) r490.2 (z)) (fun r498 => oadd r498.2.2.1 r498.2.2.2 (bnd (r498.1) (fun w499 => obd w499 (fun a501 => obd (gq r498.2.1 (a501) 2 3) (fun w502 => obd (gq r498.2.1 (o) 3 11) (fun w507 => obd w502 (fun a512 => (if kc r498.2.1 (a512) 1 = true then obd (Zo_becomeAs_f n (a512) (w507) r498.2.1) (fun r513 => obd (gq r513.2 (a501) 2 4) (fun w514 => obd (gq r513.2 (a9) 2 4) (fun w519 => obd w514 (fun a524 => (if kc r513.2 (a524) 1 = true then obd (Zo_becomeAs_f n (a524) (w519) r513.2) (fun r525 => obd (gq r525.2 (a501) 2 4) (fun w526 => (if kc r525.2 (o) 3 = true then obd (Ya_follow_f n (o) (w526) (some (a7)) (some (a54)) r525.2) (fun r531 => obd (gq r531.2 (a501) 2 4) (fun w532 => obd (Ya_leastTotal_f n (w532) r531.2) (fun r537 => obd (pf r537.2 (a501) 2 10 (.int (r537.1))) (fun h538 => obd (gq h538 (a501) 2 4) (fun w544 => (if kc h538 (o) 3 = true then obd (Ya_stay_f n (o) (w544) h538) (fun r549 => obd (gq r549.2 (a501) 2 2) (fun w550 => obd w550 (fun a555 => obd (pa r549.2 (a555) 0 ((0 : Int32)) (x2)) (fun h556 => obd (gq h556 (a501) 2 2) (fun w563 => obd w563 (fun a568 => obd (pa h556 (a568) 0 ((1 : Int32)) (x3)) (fun h569 => obd (gq h569 (a501) 2 2) (fun w576 => obd w576 (fun a581 => obd (pa h569 (a581) 0 ((2 : Int32)) (x4)) (fun h582 => obd (gq h582 (a501) 2 2) (fun w589 => obd w589 (fun a594 => obd (pa h582 (a594) 0 ((3 : Int32)) (x5)) (fun h595 => some ((1 : Int32), h595, 0, 0)))))))))))))) else none)))))) else none))) else none))))) else none)))))))) else none) else some ((0 : Int32), r490.2, 0, 0))) else obd (gi r490.2 (a9) 2 8) (fun u619 => obd (pf r490.2 (a9) 2 8 (.int ((u619) + ((1 : Int32))))) (fun h624 => some ((1 : Int32), h624, 0, 0))))) else none) else obd (gq h478 (o) 3 11) (fun w633 => obd (gq h478 (o) 3 9) (fun w638 => obd w633 (fun a643 => (if kc h478 (a643) 1 = true then obd (Zo_loosen_f n 0 (a643) (w638) 0 0 0 h478) (fun r644 => (if kc r644.2 (o) 3 = true then obd (Ya_isCovered_f n 0 (o) 0 r644.2) (fun r645 => (if r645.1 = 0 then obd (gi r645.2 (o) 3 3) (fun u647 => (if u647 < (200 : Int32) then (if kc r645.2 (o) 3 = true then obd (Ya_newState_f n (o) (some (a9)) r645.2 (z)) (fun r653 => oadd r653.2.2.1 r653.2.2.2 (bnd (r653.1) (fun w654 => obd w654 (fun a656 => obd (gq r653.2.1 (a656) 2 3) (fun w657 => obd (gq r653.2.1 (o) 3 11) (fun w662 => obd w657 (fun a667 => (if kc r653.2.1 (a667) 1 = true then obd (Zo_becomeAs_f n (a667) (w662) r653.2.1) (fun r668 => obd (gq r668.2 (a656) 2 4) (fun w669 => obd (gq r668.2 (a9) 2 4) (fun w674 => obd w669 (fun a679 => (if kc r668.2 (a679) 1 = true then obd (Zo_becomeAs_f n (a679) (w674) r668.2) (fun r680 => obd (gq r680.2 (a656) 2 4) (fun w681 => (if kc r680.2 (o) 3 = true then obd (Ya_follow_f n (o) (w681) (some (a7)) (some (a54)) r680.2) (fun r686 => obd (gq r686.2 (a656) 2 4) (fun w687 => obd (Ya_leastTotal_f n (w687) r686.2) (fun r692 => obd (pf r692.2 (a656) 2 10 (.int (r692.1))) (fun h693 => obd (gq h693 (a656) 2 4) (fun w699 => (if kc h693 (o) 3 = true then obd (Ya_stay_f n (o) (w699) h693) (fun r704 => obd (gq r704.2 (a656) 2 2) (fun w705 => obd w705 (fun a710 => obd (pa r704.2 (a710) 0 ((0 : Int32)) (x2)) (fun h711 => obd (gq h711 (a656) 2 2) (fun w718 => obd w718 (fun a723 => obd (pa h711 (a723) 0 ((1 : Int32)) (x3)) (fun h724 => obd (gq h724 (a656) 2 2) (fun w731 => obd w731 (fun a736 => obd (pa h724 (a736) 0 ((2 : Int32)) (x4)) (fun h737 => obd (gq h737 (a656) 2 2) (fun w744 => obd w744 (fun a749 => obd (pa h737 (a749) 0 ((3 : Int32)) (x5)) (fun h750 => some ((1 : Int32), h750, 0, 0)))))))))))))) else none)))))) else none))) else none))))) else none)))))))) else none) else some ((0 : Int32), r645.2, 0, 0))) else obd (gi r645.2 (a9) 2 8) (fun u774 => obd (pf r645.2 (a9) 2 8 (.int ((u774) + ((1 : Int32))))) (fun h779 => some ((1 : Int32), h779, 0, 0))))) else none)) else none)))))))) else some ((1 : Int32), r460.2, 0, 0)))))) else none))) else none))) else none)))))))))))))))))))))) else none))) else none)
set_option maxRecDepth 100000 in
set_option maxHeartbeats 8000000 in
theorem Ya_tryMove_x {F : xF} {G : xG} {B mc ms : Nat} {o : Nat} (C : xC F G B cYa_tryMove RYa 9 4 96 mc ms) (hr : (xFM F).sig.returnType = (some .boolean)) {n : Nat} {y1 : Option Nat} {x2 : Int32} {x3 : Int32} {x4 : Int32} {x5 : Int32} {h : xH} {z cs ss : Nat} {R : Int32 × xH × Nat × Nat} {Zf : Nat} (hm : cs + R.2.2.1 ≤ mc) (hs : ss + R.2.2.2 ≤ ms) (hz : Zf = z + R.2.2.1) (hR : Ya_tryMove_f n o y1 x2 x3 x4 x5 h z = some R) : X F G B (xZ F G B (kP (some (.int R.1)) R.2.1 Zf) mc ms) 9 h z cs ss 0 [(0, .ref (o)), (1, va_rf (y1)), (2, .int (x2)), (3, .int (x3)), (4, .int (x4)), (5, .int (x5))] [] := by
  unfold Ya_tryMove_f at hR
  refine X_aload_n C dYa_tryMove_0 rfl ?_
  refine X_iload_n C dYa_tryMove_1 rfl ?_
  refine X_iload_n C dYa_tryMove_2 rfl ?_
  have hq := o_if hR
  clear hR
  obtain ⟨k803, hR⟩ := hq
  obtain ⟨fs804, he805⟩ := kc_e k803
  have hq := o_bind hR
  clear hR
  obtain ⟨r1, hr1, hR⟩ := hq
  refine X_callVk (As := [.int (x2), .int (x3)]) (rest := []) C (Ya_wayAt_c hr1) wYa_130 ⟨by decide, by decide⟩ ⟨by omega, by omega⟩ he805 oYa.2.1 rfl rfl (Nat.le_of_ble_eq_true rfl) dYa_tryMove_3 ?_
  show X F G B _ 9 (r1.2) _ _ _ _ _ [va_rf (r1.1)]
  have hq := b_bnd hR
  clear hR
  obtain ⟨w2, e3, hR⟩ := hq
  rw [← e3]
  refine X_astoreq (lv' := [(6, va_rf (w2)), (0, .ref (o)), (1, va_rf (y1)), (2, .int (x2)), (3, .int (x3)), (4, .int (x4)), (5, .int (x5))]) C dYa_tryMove_6 (by decide) (by simp [rf_cat, cat_i, cat_r, cat_l, rf_n, rf_s] <;> decide) ?_
  refine X_aload_n C dYa_tryMove_8 rfl ?_
  refine X_iload C dYa_tryMove_9 rfl ?_
  refine X_iload C dYa_tryMove_11 rfl ?_
  have hq := o_if hR
  clear hR
  obtain ⟨k800, hR⟩ := hq
  obtain ⟨fs801, he802⟩ := kc_e k800
  have hq := o_bind hR
  clear hR
  obtain ⟨r4, hr4, hR⟩ := hq
  refine X_callVk (As := [.int (x4), .int (x5)]) (rest := []) C (Ya_wayAt_c hr4) wYa_130 ⟨by decide, by decide⟩ ⟨by omega, by omega⟩ he802 oYa.2.1 rfl rfl (Nat.le_of_ble_eq_true rfl) dYa_tryMove_13 ?_
  show X F G B _ 9 (r4.2) _ _ _ _ _ [va_rf (r4.1)]
  have hq := b_bnd hR
  clear hR
  obtain ⟨w5, e6, hR⟩ := hq
  rw [← e6]
  refine X_astoreq (lv' := [(7, va_rf (w5)), (6, va_rf (w2)), (0, .ref (o)), (1, va_rf (y1)), (2, .int (x2)), (3, .int (x3)), (4, .int (x4)), (5, .int (x5))]) C dYa_tryMove_16 (by decide) (by simp [rf_cat, cat_i, cat_r, cat_l, rf_n, rf_s] <;> decide) ?_
  refine X_aloadq C dYa_tryMove_18 rfl ?_
  refine X_ifnonnullq (tgt := 25) C dYa_tryMove_20 (by decide) (fun a7 e8 => ?_) (fun e8 => ?_)
  · subst e8
    rw [oel_s] at hR
    refine X_aload_nq C dYa_tryMove_25 rfl ?_
    have hq := o_bind hR
    clear hR
    obtain ⟨a9, rfl, hR⟩ := hq
    have hq := o_bind hR
    clear hR
    obtain ⟨w10, hx14, hR⟩ := hq
    obtain ⟨fs11, he12, hv13⟩ := gq_e hx14
    refine X_get (k := 1) C oSt fwYa_192 he12 hv13 dYa_tryMove_26 ?_
    refine X_iconst (v := 0) C dYa_tryMove_29 rfl ?_
    refine X_aload_n C dYa_tryMove_30 rfl ?_
    have hq := o_bind hR
    clear hR
    obtain ⟨w15, hx19, hR⟩ := hq
    obtain ⟨fs16, he17, hv18⟩ := gq_e hx19
    refine X_get (k := 10) C oYa fwYa_31 he17 hv18 dYa_tryMove_31 ?_
    refine X_iconst (v := 0) C dYa_tryMove_34 rfl ?_
    refine X_iconst (v := 3) C dYa_tryMove_35 rfl ?_
    have hq := o_bind hR
    clear hR
    obtain ⟨a20, rfl, hR⟩ := hq
    have hq := o_bind hR
    clear hR
    obtain ⟨a21, rfl, hR⟩ := hq
    have hq := o_bind hR
    clear hR
    obtain ⟨h22, hh23, hR⟩ := hq
    obtain ⟨n24, n25, n26, n27, n28, n29, n30, n31, n32, n33, n34, n35⟩ := cpi_e hh23
    refine X_copyi C cpYa_194 rfl n28 n29 n30 n31 n32 n33 n34 ⟨by decide, Nat.le_of_ble_eq_true rfl⟩ dYa_tryMove_36 ?_
    rw [← n35]
    refine X_aload_n C dYa_tryMove_39 rfl ?_
    have hq := o_bind hR
    clear hR
    obtain ⟨w36, hx40, hR⟩ := hq
    obtain ⟨fs37, he38, hv39⟩ := gq_e hx40
    refine X_get (k := 10) C oYa fwYa_31 he38 hv39 dYa_tryMove_40 ?_
    refine X_iload_n C dYa_tryMove_43 rfl ?_
    refine X_aload C dYa_tryMove_44 rfl ?_
    have hq := o_bind hR
    clear hR
    obtain ⟨u41, hx45, hR⟩ := hq
    obtain ⟨fs42, he43, hv44⟩ := gi_e hx45
    refine X_get (k := 1) C oWa fwYa_200 he43 hv44 dYa_tryMove_46 ?_
    have hq := o_bind hR
    clear hR
    obtain ⟨a46, rfl, hR⟩ := hq
    have hq := o_bind hR
    clear hR
    obtain ⟨h47, hh48, hR⟩ := hq
    obtain ⟨n49, f50, he51, hi52, e53⟩ := pa_e hh48
    refine X_iast C rfl he51 hi52 dYa_tryMove_49 ?_
    rw [← e53]
    refine X_aloadq C dYa_tryMove_50 rfl ?_
    refine X_ifnullq (tgt := 67) C dYa_tryMove_52 (by decide) (fun e55 => ?_) (fun a54 e55 => ?_)
    · subst e55
      rw [oel_n] at hR
      refine X_aload_n C dYa_tryMove_67 rfl ?_
      have hq := o_bind hR
      clear hR
      obtain ⟨w56, hx60, hR⟩ := hq
      obtain ⟨fs57, he58, hv59⟩ := gq_e hx60
      refine X_get (k := 11) C oYa fwYa_39 he58 hv59 dYa_tryMove_68 ?_
      refine X_aload_n C dYa_tryMove_71 rfl ?_
      have hq := o_bind hR
      clear hR
      obtain ⟨w61, hx65, hR⟩ := hq
      obtain ⟨fs62, he63, hv64⟩ := gq_e hx65
      refine X_get (k := 3) C oSt fwYa_114 he63 hv64 dYa_tryMove_72 ?_
      have hq := o_bind hR
      clear hR
      obtain ⟨a66, rfl, hR⟩ := hq
      have hq := o_if hR
      clear hR
      obtain ⟨k416, hR⟩ := hq
      obtain ⟨fs417, he418⟩ := kc_e k416
      have hq := o_bind hR
      clear hR
      obtain ⟨r67, hr67, hR⟩ := hq
      refine X_callVk (As := [va_rf (w61)]) (rest := []) C (Zo_becomeAs_c hr67) wYa_117 ⟨by decide, by decide⟩ ⟨by omega, by omega⟩ he418 oZo.2.1 rfl rfl (Nat.le_of_ble_eq_true rfl) dYa_tryMove_75 ?_
      show X F G B _ 9 (r67.2) _ _ _ _ _ []
      refine X_aload_n C dYa_tryMove_78 rfl ?_
      refine X_aload_n C dYa_tryMove_79 rfl ?_
      have hq := o_bind hR
      clear hR
      obtain ⟨w68, hx72, hR⟩ := hq
      obtain ⟨fs69, he70, hv71⟩ := gq_e hx72
      refine X_get (k := 11) C oYa fwYa_39 he70 hv71 dYa_tryMove_80 ?_
      refine X_aload C dYa_tryMove_83 rfl ?_
      refine X_aloadN C dYa_tryMove_85 rfl ?_
      have hq := o_if hR
      clear hR
      obtain ⟨k413, hR⟩ := hq
      obtain ⟨fs414, he415⟩ := kc_e k413
      have hq := o_bind hR
      clear hR
      obtain ⟨r73, hr73, hR⟩ := hq
      refine X_callVk (As := [va_rf (w68), .ref (a7), .null]) (rest := []) C (Ya_follow_c hr73) wYa_203 ⟨by decide, by decide⟩ ⟨by omega, by omega⟩ he415 oYa.2.1 rfl rfl (Nat.le_of_ble_eq_true rfl) dYa_tryMove_87 ?_
      show X F G B _ 9 (r73.2) _ _ _ _ _ []
      refine X_aload_n C dYa_tryMove_90 rfl ?_
      refine X_aload_n C dYa_tryMove_91 rfl ?_
      have hq := o_bind hR
      clear hR
      obtain ⟨w74, hx78, hR⟩ := hq
      obtain ⟨fs75, he76, hv77⟩ := gq_e hx78
      refine X_get (k := 11) C oYa fwYa_39 he76 hv77 dYa_tryMove_92 ?_
      have hq := o_if hR
      clear hR
      obtain ⟨k410, hR⟩ := hq
      obtain ⟨fs411, he412⟩ := kc_e k410
      have hq := o_bind hR
      clear hR
      obtain ⟨r79, hr79, hR⟩ := hq
      refine X_callVk (As := [va_rf (w74)]) (rest := []) C (Ya_stay_c hr79) wYa_94 ⟨by decide, by decide⟩ ⟨by omega, by omega⟩ he412 oYa.2.1 rfl rfl (Nat.le_of_ble_eq_true rfl) dYa_tryMove_95 ?_
      show X F G B _ 9 (r79.2) _ _ _ _ _ []
      refine X_aload_n C dYa_tryMove_98 rfl ?_
      have hq := o_bind hR
      clear hR
      obtain ⟨w80, hx84, hR⟩ := hq
      obtain ⟨fs81, he82, hv83⟩ := gq_e hx84
      refine X_get (k := 11) C oYa fwYa_39 he82 hv83 dYa_tryMove_99 ?_
      have hq := o_bind hR
      clear hR
      obtain ⟨a85, rfl, hR⟩ := hq
      have hq := o_bind hR
      clear hR
      obtain ⟨u86, hx90, hR⟩ := hq
      obtain ⟨fs87, he88, hv89⟩ := gi_e hx90
      refine X_get (k := 2) C oZo fwYa_97 he88 hv89 dYa_tryMove_102 ?_
      refine X_if_eq (tgt := 110) C dYa_tryMove_105 (by decide) (fun c91 => ?_) (fun c91 => ?_)
      · rw [if_pos c91] at hR
        refine X_aload_n C dYa_tryMove_110 rfl ?_
        refine X_dup C dYa_tryMove_111 rfl ?_
        have hq := o_bind hR
        clear hR
        obtain ⟨u92, hx96, hR⟩ := hq
        obtain ⟨fs93, he94, hv95⟩ := gi_e hx96
        refine X_get (k := 7) C oSt fwYa_187 he94 hv95 dYa_tryMove_112 ?_
        refine X_iconst (v := 1) C dYa_tryMove_115 rfl ?_
        refine X_iadd C dYa_tryMove_116 ?_
        have hq := o_bind hR
        clear hR
        obtain ⟨h97, hh98, hR⟩ := hq
        obtain ⟨fs99, he100, hl101, e102⟩ := pf_e hh98
        refine X_put (k := 7) C oSt fwYa_187 rfl he100 rfl rfl hl101 dYa_tryMove_117 ?_
        rw [← e102]
        refine X_aload_n C dYa_tryMove_120 rfl ?_
        have hq := o_bind hR
        clear hR
        obtain ⟨u103, hx107, hR⟩ := hq
        obtain ⟨fs104, he105, hv106⟩ := gi_e hx107
        refine X_get (k := 8) C oYa fwYa_23 he105 hv106 dYa_tryMove_121 ?_
        refine X_if_eq (tgt := 138) C dYa_tryMove_124 (by decide) (fun c108 => ?_) (fun c108 => ?_)
        · rw [if_pos c108] at hR
          refine X_aload_n C dYa_tryMove_138 rfl ?_
          have hq := o_if hR
          clear hR
          obtain ⟨k249, hR⟩ := hq
          obtain ⟨fs250, he251⟩ := kc_e k249
          have hq := o_bind hR
          clear hR
          obtain ⟨r109, hr109, hR⟩ := hq
          refine X_callVk (As := []) (rest := []) C (Ya_isCovered_c hr109) wYa_207 ⟨by decide, by decide⟩ ⟨by omega, by omega⟩ he251 oYa.2.1 rfl rfl (Nat.le_of_ble_eq_true rfl) dYa_tryMove_139 ?_
          show X F G B _ 9 (r109.2) _ _ _ _ _ [.int (r109.1)]
          refine X_if_eq (tgt := 157) C dYa_tryMove_142 (by decide) (fun c110 => ?_) (fun c110 => ?_)
          · rw [if_pos c110] at hR
            refine X_aload_n C dYa_tryMove_157 rfl ?_
            have hq := o_bind hR
            clear hR
            obtain ⟨u111, hx115, hR⟩ := hq
            obtain ⟨fs112, he113, hv114⟩ := gi_e hx115
            refine X_get (k := 3) C oYa fwYa_65 he113 hv114 dYa_tryMove_158 ?_
            refine X_sipush (v := 200) C dYa_tryMove_161 (by decide) ?_
            refine X_icmp_lt (tgt := 169) C dYa_tryMove_164 (by decide) (fun c116 => ?_) (fun c116 => ?_)
            · rw [if_pos c116] at hR
              refine X_aload_n C dYa_tryMove_169 rfl ?_
              refine X_aload_n C dYa_tryMove_170 rfl ?_
              have hq := o_if hR
              clear hR
              obtain ⟨k235, hR⟩ := hq
              obtain ⟨fs236, he237⟩ := kc_e k235
              have hq := o_bind hR
              clear hR
              obtain ⟨r117, hr117, hR⟩ := hq
              have hq := o_add hR
              clear hR
              obtain ⟨R234, e233, hR⟩ := hq
              subst e233
              dsimp only at hm hs hz ⊢
              refine X_callVa (As := [.ref (a9)]) (rest := []) C (Ya_newState_c hr117) wYa_100 ⟨by decide, by decide⟩ ⟨by omega, by omega⟩ he237 oYa.2.1 rfl rfl (Nat.le_of_ble_eq_true rfl) dYa_tryMove_171 ?_
              show X F G B _ 9 (r117.2.1) _ _ _ _ _ [va_rf (r117.1)]
              have hq := b_bnd hR
              clear hR
              obtain ⟨w118, e119, hR⟩ := hq
              rw [← e119]
              refine X_astoreq (lv' := [(8, va_rf (w118)), (7, .null), (6, .ref (a7)), (0, .ref (o)), (1, .ref (a9)), (2, .int (x2)), (3, .int (x3)), (4, .int (x4)), (5, .int (x5))]) C dYa_tryMove_174 (by decide) rfl ?_
              refine X_aloadq C dYa_tryMove_176 rfl ?_
              have hq := o_bind hR
              clear hR
              obtain ⟨a120, rfl, hR⟩ := hq
              have hq := o_bind hR
              clear hR
              obtain ⟨w121, hx125, hR⟩ := hq
              obtain ⟨fs122, he123, hv124⟩ := gq_e hx125
              refine X_get (k := 3) C oSt fwYa_114 he123 hv124 dYa_tryMove_178 ?_
              refine X_aload_n C dYa_tryMove_181 rfl ?_
              have hq := o_bind hR
              clear hR
              obtain ⟨w126, hx130, hR⟩ := hq
              obtain ⟨fs127, he128, hv129⟩ := gq_e hx130
              refine X_get (k := 11) C oYa fwYa_39 he128 hv129 dYa_tryMove_182 ?_
              have hq := o_bind hR
              clear hR
              obtain ⟨a131, rfl, hR⟩ := hq
              have hq := o_if hR
              clear hR
              obtain ⟨k230, hR⟩ := hq
              obtain ⟨fs231, he232⟩ := kc_e k230
              have hq := o_bind hR
              clear hR
              obtain ⟨r132, hr132, hR⟩ := hq
              refine X_callVk (As := [va_rf (w126)]) (rest := []) C (Zo_becomeAs_c hr132) wYa_117 ⟨by decide, by decide⟩ ⟨by omega, by omega⟩ he232 oZo.2.1 rfl rfl (Nat.le_of_ble_eq_true rfl) dYa_tryMove_185 ?_
              show X F G B _ 9 (r132.2) _ _ _ _ _ []
              refine X_aload C dYa_tryMove_188 rfl ?_
              have hq := o_bind hR
              clear hR
              obtain ⟨w133, hx137, hR⟩ := hq
              obtain ⟨fs134, he135, hv136⟩ := gq_e hx137
              refine X_get (k := 4) C oSt fwYa_104 he135 hv136 dYa_tryMove_190 ?_
              refine X_aload_n C dYa_tryMove_193 rfl ?_
              have hq := o_bind hR
              clear hR
              obtain ⟨w138, hx142, hR⟩ := hq
              obtain ⟨fs139, he140, hv141⟩ := gq_e hx142
              refine X_get (k := 4) C oSt fwYa_104 he140 hv141 dYa_tryMove_194 ?_
              have hq := o_bind hR
              clear hR
              obtain ⟨a143, rfl, hR⟩ := hq
              have hq := o_if hR
              clear hR
              obtain ⟨k227, hR⟩ := hq
              obtain ⟨fs228, he229⟩ := kc_e k227
              have hq := o_bind hR
              clear hR
              obtain ⟨r144, hr144, hR⟩ := hq
              refine X_callVk (As := [va_rf (w138)]) (rest := []) C (Zo_becomeAs_c hr144) wYa_117 ⟨by decide, by decide⟩ ⟨by omega, by omega⟩ he229 oZo.2.1 rfl rfl (Nat.le_of_ble_eq_true rfl) dYa_tryMove_197 ?_
              show X F G B _ 9 (r144.2) _ _ _ _ _ []
              refine X_aload_n C dYa_tryMove_200 rfl ?_
              refine X_aload C dYa_tryMove_201 rfl ?_
              have hq := o_bind hR
              clear hR
              obtain ⟨w145, hx149, hR⟩ := hq
              obtain ⟨fs146, he147, hv148⟩ := gq_e hx149
              refine X_get (k := 4) C oSt fwYa_104 he147 hv148 dYa_tryMove_203 ?_
              refine X_aload C dYa_tryMove_206 rfl ?_
              refine X_aloadN C dYa_tryMove_208 rfl ?_
              have hq := o_if hR
              clear hR
              obtain ⟨k224, hR⟩ := hq
              obtain ⟨fs225, he226⟩ := kc_e k224
              have hq := o_bind hR
              clear hR
              obtain ⟨r150, hr150, hR⟩ := hq
              refine X_callVk (As := [va_rf (w145), .ref (a7), .null]) (rest := []) C (Ya_follow_c hr150) wYa_203 ⟨by decide, by decide⟩ ⟨by omega, by omega⟩ he226 oYa.2.1 rfl rfl (Nat.le_of_ble_eq_true rfl) dYa_tryMove_210 ?_
              show X F G B _ 9 (r150.2) _ _ _ _ _ []
              refine X_aload C dYa_tryMove_213 rfl ?_
              refine X_aload C dYa_tryMove_215 rfl ?_
              have hq := o_bind hR
              clear hR
              obtain ⟨w151, hx155, hR⟩ := hq
              obtain ⟨fs152, he153, hv154⟩ := gq_e hx155
              refine X_get (k := 4) C oSt fwYa_104 he153 hv154 dYa_tryMove_217 ?_
              have hq := o_bind hR
              clear hR
              obtain ⟨r156, hr156, hR⟩ := hq
              refine X_callSk (As := [va_rf (w151)]) (rest := [.ref (a120)]) C (Ya_leastTotal_c hr156) wYa_211 ⟨by decide, by decide⟩ ⟨by omega, by omega⟩ rfl rfl (Nat.le_of_ble_eq_true rfl) dYa_tryMove_220 ?_
              show X F G B _ 9 (r156.2) _ _ _ _ _ [.int (r156.1), .ref (a120)]
              have hq := o_bind hR
              clear hR
              obtain ⟨h157, hh158, hR⟩ := hq
              obtain ⟨fs159, he160, hl161, e162⟩ := pf_e hh158
              refine X_put (k := 10) C oSt fwYa_107 rfl he160 rfl rfl hl161 dYa_tryMove_223 ?_
              rw [← e162]
              refine X_aload_n C dYa_tryMove_226 rfl ?_
              refine X_aload C dYa_tryMove_227 rfl ?_
              have hq := o_bind hR
              clear hR
              obtain ⟨w163, hx167, hR⟩ := hq
              obtain ⟨fs164, he165, hv166⟩ := gq_e hx167
              refine X_get (k := 4) C oSt fwYa_104 he165 hv166 dYa_tryMove_229 ?_
              have hq := o_if hR
              clear hR
              obtain ⟨k221, hR⟩ := hq
              obtain ⟨fs222, he223⟩ := kc_e k221
              have hq := o_bind hR
              clear hR
              obtain ⟨r168, hr168, hR⟩ := hq
              refine X_callVk (As := [va_rf (w163)]) (rest := []) C (Ya_stay_c hr168) wYa_94 ⟨by decide, by decide⟩ ⟨by omega, by omega⟩ he223 oYa.2.1 rfl rfl (Nat.le_of_ble_eq_true rfl) dYa_tryMove_232 ?_
              show X F G B _ 9 (r168.2) _ _ _ _ _ []
              refine X_aload C dYa_tryMove_235 rfl ?_
              have hq := o_bind hR
              clear hR
              obtain ⟨w169, hx173, hR⟩ := hq
              obtain ⟨fs170, he171, hv172⟩ := gq_e hx173
              refine X_get (k := 2) C oSt fwYa_215 he171 hv172 dYa_tryMove_237 ?_
              refine X_iconst (v := 0) C dYa_tryMove_240 rfl ?_
              refine X_iload_n C dYa_tryMove_241 rfl ?_
              have hq := o_bind hR
              clear hR
              obtain ⟨a174, rfl, hR⟩ := hq
              have hq := o_bind hR
              clear hR
              obtain ⟨h175, hh176, hR⟩ := hq
              obtain ⟨n177, f178, he179, hi180, e181⟩ := pa_e hh176
              refine X_iast C rfl he179 hi180 dYa_tryMove_242 ?_
              rw [← e181]
              refine X_aload C dYa_tryMove_243 rfl ?_
              have hq := o_bind hR
              clear hR
              obtain ⟨w182, hx186, hR⟩ := hq
              obtain ⟨fs183, he184, hv185⟩ := gq_e hx186
              refine X_get (k := 2) C oSt fwYa_215 he184 hv185 dYa_tryMove_245 ?_
              refine X_iconst (v := 1) C dYa_tryMove_248 rfl ?_
              refine X_iload_n C dYa_tryMove_249 rfl ?_
              have hq := o_bind hR
              clear hR
              obtain ⟨a187, rfl, hR⟩ := hq
              have hq := o_bind hR
              clear hR
              obtain ⟨h188, hh189, hR⟩ := hq
              obtain ⟨n190, f191, he192, hi193, e194⟩ := pa_e hh189
              refine X_iast C rfl he192 hi193 dYa_tryMove_250 ?_
              rw [← e194]
              refine X_aload C dYa_tryMove_251 rfl ?_
              have hq := o_bind hR
              clear hR
              obtain ⟨w195, hx199, hR⟩ := hq
              obtain ⟨fs196, he197, hv198⟩ := gq_e hx199
              refine X_get (k := 2) C oSt fwYa_215 he197 hv198 dYa_tryMove_253 ?_
              refine X_iconst (v := 2) C dYa_tryMove_256 rfl ?_
              refine X_iload C dYa_tryMove_257 rfl ?_
              have hq := o_bind hR
              clear hR
              obtain ⟨a200, rfl, hR⟩ := hq
              have hq := o_bind hR
              clear hR
              obtain ⟨h201, hh202, hR⟩ := hq
              obtain ⟨n203, f204, he205, hi206, e207⟩ := pa_e hh202
              refine X_iast C rfl he205 hi206 dYa_tryMove_259 ?_
              rw [← e207]
              refine X_aload C dYa_tryMove_260 rfl ?_
              have hq := o_bind hR
              clear hR
              obtain ⟨w208, hx212, hR⟩ := hq
              obtain ⟨fs209, he210, hv211⟩ := gq_e hx212
              refine X_get (k := 2) C oSt fwYa_215 he210 hv211 dYa_tryMove_262 ?_
              refine X_iconst (v := 3) C dYa_tryMove_265 rfl ?_
              refine X_iload C dYa_tryMove_266 rfl ?_
              have hq := o_bind hR
              clear hR
              obtain ⟨a213, rfl, hR⟩ := hq
              have hq := o_bind hR
              clear hR
              obtain ⟨h214, hh215, hR⟩ := hq
              obtain ⟨n216, f217, he218, hi219, e220⟩ := pa_e hh215
              refine X_iast C rfl he218 hi219 dYa_tryMove_268 ?_
              rw [← e220]
              refine X_iconst (v := 1) C dYa_tryMove_269 rfl ?_
              have hR := Option.some.inj hR
              subst hR
              dsimp only at hm hs hz ⊢
              exact X_zret C hr rfl (by omega) (by omega) dYa_tryMove_270 ⟨rfl, rfl, by omega⟩
            · rw [if_neg c116] at hR
              refine X_iconst (v := 0) C dYa_tryMove_167 rfl ?_
              have hR := Option.some.inj hR
              subst hR
              dsimp only at hm hs hz ⊢
              exact X_zret C hr rfl (by omega) (by omega) dYa_tryMove_168 ⟨rfl, rfl, by omega⟩
          · rw [if_neg c110] at hR
            refine X_aload_n C dYa_tryMove_145 rfl ?_
            refine X_dup C dYa_tryMove_146 rfl ?_
            have hq := o_bind hR
            clear hR
            obtain ⟨u238, hx242, hR⟩ := hq
            obtain ⟨fs239, he240, hv241⟩ := gi_e hx242
            refine X_get (k := 8) C oSt fwYa_188 he240 hv241 dYa_tryMove_147 ?_
            refine X_iconst (v := 1) C dYa_tryMove_150 rfl ?_
            refine X_iadd C dYa_tryMove_151 ?_
            have hq := o_bind hR
            clear hR
            obtain ⟨h243, hh244, hR⟩ := hq
            obtain ⟨fs245, he246, hl247, e248⟩ := pf_e hh244
            refine X_put (k := 8) C oSt fwYa_188 rfl he246 rfl rfl hl247 dYa_tryMove_152 ?_
            rw [← e248]
            refine X_iconst (v := 1) C dYa_tryMove_155 rfl ?_
            have hR := Option.some.inj hR
            subst hR
            dsimp only at hm hs hz ⊢
            exact X_zret C hr rfl (by omega) (by omega) dYa_tryMove_156 ⟨rfl, rfl, by omega⟩
        · rw [if_neg c108] at hR
          refine X_aload_n C dYa_tryMove_127 rfl ?_
          have hq := o_bind hR
          clear hR
          obtain ⟨w252, hx256, hR⟩ := hq
          obtain ⟨fs253, he254, hv255⟩ := gq_e hx256
          refine X_get (k := 11) C oYa fwYa_39 he254 hv255 dYa_tryMove_128 ?_
          refine X_aload_n C dYa_tryMove_131 rfl ?_
          have hq := o_bind hR
          clear hR
          obtain ⟨w257, hx261, hR⟩ := hq
          obtain ⟨fs258, he259, hv260⟩ := gq_e hx261
          refine X_get (k := 9) C oYa fwYa_27 he259 hv260 dYa_tryMove_132 ?_
          have hq := o_bind hR
          clear hR
          obtain ⟨a262, rfl, hR⟩ := hq
          have hq := o_if hR
          clear hR
          obtain ⟨k407, hR⟩ := hq
          obtain ⟨fs408, he409⟩ := kc_e k407
          have hq := o_bind hR
          clear hR
          obtain ⟨r263, hr263, hR⟩ := hq
          refine X_callVk (As := [va_rf (w257)]) (rest := []) C (Zo_loosen_c hr263) wYa_110 ⟨by decide, by decide⟩ ⟨by omega, by omega⟩ he409 oZo.2.1 rfl rfl (Nat.le_of_ble_eq_true rfl) dYa_tryMove_135 ?_
          show X F G B _ 9 (r263.2) _ _ _ _ _ []
          refine X_aload_n C dYa_tryMove_138 rfl ?_
          have hq := o_if hR
          clear hR
          obtain ⟨k404, hR⟩ := hq
          obtain ⟨fs405, he406⟩ := kc_e k404
          have hq := o_bind hR
          clear hR
          obtain ⟨r264, hr264, hR⟩ := hq
          refine X_callVk (As := []) (rest := []) C (Ya_isCovered_c hr264) wYa_207 ⟨by decide, by decide⟩ ⟨by omega, by omega⟩ he406 oYa.2.1 rfl rfl (Nat.le_of_ble_eq_true rfl) dYa_tryMove_139 ?_
          show X F G B _ 9 (r264.2) _ _ _ _ _ [.int (r264.1)]
          refine X_if_eq (tgt := 157) C dYa_tryMove_142 (by decide) (fun c265 => ?_) (fun c265 => ?_)
          · rw [if_pos c265] at hR
            refine X_aload_n C dYa_tryMove_157 rfl ?_
            have hq := o_bind hR
            clear hR
            obtain ⟨u266, hx270, hR⟩ := hq
            obtain ⟨fs267, he268, hv269⟩ := gi_e hx270
            refine X_get (k := 3) C oYa fwYa_65 he268 hv269 dYa_tryMove_158 ?_
            refine X_sipush (v := 200) C dYa_tryMove_161 (by decide) ?_
            refine X_icmp_lt (tgt := 169) C dYa_tryMove_164 (by decide) (fun c271 => ?_) (fun c271 => ?_)
            · rw [if_pos c271] at hR
              refine X_aload_n C dYa_tryMove_169 rfl ?_
              refine X_aload_n C dYa_tryMove_170 rfl ?_
              have hq := o_if hR
              clear hR
              obtain ⟨k390, hR⟩ := hq
              obtain ⟨fs391, he392⟩ := kc_e k390
              have hq := o_bind hR
              clear hR
              obtain ⟨r272, hr272, hR⟩ := hq
              have hq := o_add hR
              clear hR
              obtain ⟨R389, e388, hR⟩ := hq
              subst e388
              dsimp only at hm hs hz ⊢
              refine X_callVa (As := [.ref (a9)]) (rest := []) C (Ya_newState_c hr272) wYa_100 ⟨by decide, by decide⟩ ⟨by omega, by omega⟩ he392 oYa.2.1 rfl rfl (Nat.le_of_ble_eq_true rfl) dYa_tryMove_171 ?_
              show X F G B _ 9 (r272.2.1) _ _ _ _ _ [va_rf (r272.1)]
              have hq := b_bnd hR
              clear hR
              obtain ⟨w273, e274, hR⟩ := hq
              rw [← e274]
              refine X_astoreq (lv' := [(8, va_rf (w273)), (7, .null), (6, .ref (a7)), (0, .ref (o)), (1, .ref (a9)), (2, .int (x2)), (3, .int (x3)), (4, .int (x4)), (5, .int (x5))]) C dYa_tryMove_174 (by decide) rfl ?_
              refine X_aloadq C dYa_tryMove_176 rfl ?_
              have hq := o_bind hR
              clear hR
              obtain ⟨a275, rfl, hR⟩ := hq
              have hq := o_bind hR
              clear hR
              obtain ⟨w276, hx280, hR⟩ := hq
              obtain ⟨fs277, he278, hv279⟩ := gq_e hx280
              refine X_get (k := 3) C oSt fwYa_114 he278 hv279 dYa_tryMove_178 ?_
              refine X_aload_n C dYa_tryMove_181 rfl ?_
              have hq := o_bind hR
              clear hR
              obtain ⟨w281, hx285, hR⟩ := hq
              obtain ⟨fs282, he283, hv284⟩ := gq_e hx285
              refine X_get (k := 11) C oYa fwYa_39 he283 hv284 dYa_tryMove_182 ?_
              have hq := o_bind hR
              clear hR
              obtain ⟨a286, rfl, hR⟩ := hq
              have hq := o_if hR
              clear hR
              obtain ⟨k385, hR⟩ := hq
              obtain ⟨fs386, he387⟩ := kc_e k385
              have hq := o_bind hR
              clear hR
              obtain ⟨r287, hr287, hR⟩ := hq
              refine X_callVk (As := [va_rf (w281)]) (rest := []) C (Zo_becomeAs_c hr287) wYa_117 ⟨by decide, by decide⟩ ⟨by omega, by omega⟩ he387 oZo.2.1 rfl rfl (Nat.le_of_ble_eq_true rfl) dYa_tryMove_185 ?_
              show X F G B _ 9 (r287.2) _ _ _ _ _ []
              refine X_aload C dYa_tryMove_188 rfl ?_
              have hq := o_bind hR
              clear hR
              obtain ⟨w288, hx292, hR⟩ := hq
              obtain ⟨fs289, he290, hv291⟩ := gq_e hx292
              refine X_get (k := 4) C oSt fwYa_104 he290 hv291 dYa_tryMove_190 ?_
              refine X_aload_n C dYa_tryMove_193 rfl ?_
              have hq := o_bind hR
              clear hR
              obtain ⟨w293, hx297, hR⟩ := hq
              obtain ⟨fs294, he295, hv296⟩ := gq_e hx297
              refine X_get (k := 4) C oSt fwYa_104 he295 hv296 dYa_tryMove_194 ?_
              have hq := o_bind hR
              clear hR
              obtain ⟨a298, rfl, hR⟩ := hq
              have hq := o_if hR
              clear hR
              obtain ⟨k382, hR⟩ := hq
              obtain ⟨fs383, he384⟩ := kc_e k382
              have hq := o_bind hR
              clear hR
              obtain ⟨r299, hr299, hR⟩ := hq
              refine X_callVk (As := [va_rf (w293)]) (rest := []) C (Zo_becomeAs_c hr299) wYa_117 ⟨by decide, by decide⟩ ⟨by omega, by omega⟩ he384 oZo.2.1 rfl rfl (Nat.le_of_ble_eq_true rfl) dYa_tryMove_197 ?_
              show X F G B _ 9 (r299.2) _ _ _ _ _ []
              refine X_aload_n C dYa_tryMove_200 rfl ?_
              refine X_aload C dYa_tryMove_201 rfl ?_
              have hq := o_bind hR
              clear hR
              obtain ⟨w300, hx304, hR⟩ := hq
              obtain ⟨fs301, he302, hv303⟩ := gq_e hx304
              refine X_get (k := 4) C oSt fwYa_104 he302 hv303 dYa_tryMove_203 ?_
              refine X_aload C dYa_tryMove_206 rfl ?_
              refine X_aloadN C dYa_tryMove_208 rfl ?_
              have hq := o_if hR
              clear hR
              obtain ⟨k379, hR⟩ := hq
              obtain ⟨fs380, he381⟩ := kc_e k379
              have hq := o_bind hR
              clear hR
              obtain ⟨r305, hr305, hR⟩ := hq
              refine X_callVk (As := [va_rf (w300), .ref (a7), .null]) (rest := []) C (Ya_follow_c hr305) wYa_203 ⟨by decide, by decide⟩ ⟨by omega, by omega⟩ he381 oYa.2.1 rfl rfl (Nat.le_of_ble_eq_true rfl) dYa_tryMove_210 ?_
              show X F G B _ 9 (r305.2) _ _ _ _ _ []
              refine X_aload C dYa_tryMove_213 rfl ?_
              refine X_aload C dYa_tryMove_215 rfl ?_
              have hq := o_bind hR
              clear hR
              obtain ⟨w306, hx310, hR⟩ := hq
              obtain ⟨fs307, he308, hv309⟩ := gq_e hx310
              refine X_get (k := 4) C oSt fwYa_104 he308 hv309 dYa_tryMove_217 ?_
              have hq := o_bind hR
              clear hR
              obtain ⟨r311, hr311, hR⟩ := hq
              refine X_callSk (As := [va_rf (w306)]) (rest := [.ref (a275)]) C (Ya_leastTotal_c hr311) wYa_211 ⟨by decide, by decide⟩ ⟨by omega, by omega⟩ rfl rfl (Nat.le_of_ble_eq_true rfl) dYa_tryMove_220 ?_
              show X F G B _ 9 (r311.2) _ _ _ _ _ [.int (r311.1), .ref (a275)]
              have hq := o_bind hR
              clear hR
              obtain ⟨h312, hh313, hR⟩ := hq
              obtain ⟨fs314, he315, hl316, e317⟩ := pf_e hh313
              refine X_put (k := 10) C oSt fwYa_107 rfl he315 rfl rfl hl316 dYa_tryMove_223 ?_
              rw [← e317]
              refine X_aload_n C dYa_tryMove_226 rfl ?_
              refine X_aload C dYa_tryMove_227 rfl ?_
              have hq := o_bind hR
              clear hR
              obtain ⟨w318, hx322, hR⟩ := hq
              obtain ⟨fs319, he320, hv321⟩ := gq_e hx322
              refine X_get (k := 4) C oSt fwYa_104 he320 hv321 dYa_tryMove_229 ?_
              have hq := o_if hR
              clear hR
              obtain ⟨k376, hR⟩ := hq
              obtain ⟨fs377, he378⟩ := kc_e k376
              have hq := o_bind hR
              clear hR
              obtain ⟨r323, hr323, hR⟩ := hq
              refine X_callVk (As := [va_rf (w318)]) (rest := []) C (Ya_stay_c hr323) wYa_94 ⟨by decide, by decide⟩ ⟨by omega, by omega⟩ he378 oYa.2.1 rfl rfl (Nat.le_of_ble_eq_true rfl) dYa_tryMove_232 ?_
              show X F G B _ 9 (r323.2) _ _ _ _ _ []
              refine X_aload C dYa_tryMove_235 rfl ?_
              have hq := o_bind hR
              clear hR
              obtain ⟨w324, hx328, hR⟩ := hq
              obtain ⟨fs325, he326, hv327⟩ := gq_e hx328
              refine X_get (k := 2) C oSt fwYa_215 he326 hv327 dYa_tryMove_237 ?_
              refine X_iconst (v := 0) C dYa_tryMove_240 rfl ?_
              refine X_iload_n C dYa_tryMove_241 rfl ?_
              have hq := o_bind hR
              clear hR
              obtain ⟨a329, rfl, hR⟩ := hq
              have hq := o_bind hR
              clear hR
              obtain ⟨h330, hh331, hR⟩ := hq
              obtain ⟨n332, f333, he334, hi335, e336⟩ := pa_e hh331
              refine X_iast C rfl he334 hi335 dYa_tryMove_242 ?_
              rw [← e336]
              refine X_aload C dYa_tryMove_243 rfl ?_
              have hq := o_bind hR
              clear hR
              obtain ⟨w337, hx341, hR⟩ := hq
              obtain ⟨fs338, he339, hv340⟩ := gq_e hx341
              refine X_get (k := 2) C oSt fwYa_215 he339 hv340 dYa_tryMove_245 ?_
              refine X_iconst (v := 1) C dYa_tryMove_248 rfl ?_
              refine X_iload_n C dYa_tryMove_249 rfl ?_
              have hq := o_bind hR
              clear hR
              obtain ⟨a342, rfl, hR⟩ := hq
              have hq := o_bind hR
              clear hR
              obtain ⟨h343, hh344, hR⟩ := hq
              obtain ⟨n345, f346, he347, hi348, e349⟩ := pa_e hh344
              refine X_iast C rfl he347 hi348 dYa_tryMove_250 ?_
              rw [← e349]
              refine X_aload C dYa_tryMove_251 rfl ?_
              have hq := o_bind hR
              clear hR
              obtain ⟨w350, hx354, hR⟩ := hq
              obtain ⟨fs351, he352, hv353⟩ := gq_e hx354
              refine X_get (k := 2) C oSt fwYa_215 he352 hv353 dYa_tryMove_253 ?_
              refine X_iconst (v := 2) C dYa_tryMove_256 rfl ?_
              refine X_iload C dYa_tryMove_257 rfl ?_
              have hq := o_bind hR
              clear hR
              obtain ⟨a355, rfl, hR⟩ := hq
              have hq := o_bind hR
              clear hR
              obtain ⟨h356, hh357, hR⟩ := hq
              obtain ⟨n358, f359, he360, hi361, e362⟩ := pa_e hh357
              refine X_iast C rfl he360 hi361 dYa_tryMove_259 ?_
              rw [← e362]
              refine X_aload C dYa_tryMove_260 rfl ?_
              have hq := o_bind hR
              clear hR
              obtain ⟨w363, hx367, hR⟩ := hq
              obtain ⟨fs364, he365, hv366⟩ := gq_e hx367
              refine X_get (k := 2) C oSt fwYa_215 he365 hv366 dYa_tryMove_262 ?_
              refine X_iconst (v := 3) C dYa_tryMove_265 rfl ?_
              refine X_iload C dYa_tryMove_266 rfl ?_
              have hq := o_bind hR
              clear hR
              obtain ⟨a368, rfl, hR⟩ := hq
              have hq := o_bind hR
              clear hR
              obtain ⟨h369, hh370, hR⟩ := hq
              obtain ⟨n371, f372, he373, hi374, e375⟩ := pa_e hh370
              refine X_iast C rfl he373 hi374 dYa_tryMove_268 ?_
              rw [← e375]
              refine X_iconst (v := 1) C dYa_tryMove_269 rfl ?_
              have hR := Option.some.inj hR
              subst hR
              dsimp only at hm hs hz ⊢
              exact X_zret C hr rfl (by omega) (by omega) dYa_tryMove_270 ⟨rfl, rfl, by omega⟩
            · rw [if_neg c271] at hR
              refine X_iconst (v := 0) C dYa_tryMove_167 rfl ?_
              have hR := Option.some.inj hR
              subst hR
              dsimp only at hm hs hz ⊢
              exact X_zret C hr rfl (by omega) (by omega) dYa_tryMove_168 ⟨rfl, rfl, by omega⟩
          · rw [if_neg c265] at hR
            refine X_aload_n C dYa_tryMove_145 rfl ?_
            refine X_dup C dYa_tryMove_146 rfl ?_
            have hq := o_bind hR
            clear hR
            obtain ⟨u393, hx397, hR⟩ := hq
            obtain ⟨fs394, he395, hv396⟩ := gi_e hx397
            refine X_get (k := 8) C oSt fwYa_188 he395 hv396 dYa_tryMove_147 ?_
            refine X_iconst (v := 1) C dYa_tryMove_150 rfl ?_
            refine X_iadd C dYa_tryMove_151 ?_
            have hq := o_bind hR
            clear hR
            obtain ⟨h398, hh399, hR⟩ := hq
            obtain ⟨fs400, he401, hl402, e403⟩ := pf_e hh399
            refine X_put (k := 8) C oSt fwYa_188 rfl he401 rfl rfl hl402 dYa_tryMove_152 ?_
            rw [← e403]
            refine X_iconst (v := 1) C dYa_tryMove_155 rfl ?_
            have hR := Option.some.inj hR
            subst hR
            dsimp only at hm hs hz ⊢
            exact X_zret C hr rfl (by omega) (by omega) dYa_tryMove_156 ⟨rfl, rfl, by omega⟩
      · rw [if_neg c91] at hR
        refine X_iconst (v := 1) C dYa_tryMove_108 rfl ?_
        have hR := Option.some.inj hR
        subst hR
        dsimp only at hm hs hz ⊢
        exact X_zret C hr rfl (by omega) (by omega) dYa_tryMove_109 ⟨rfl, rfl, by omega⟩
    · subst e55
      rw [oel_s] at hR
      refine X_aload_n C dYa_tryMove_55 rfl ?_
      have hq := o_bind hR
      clear hR
      obtain ⟨w419, hx423, hR⟩ := hq
      obtain ⟨fs420, he421, hv422⟩ := gq_e hx423
      refine X_get (k := 10) C oYa fwYa_31 he421 hv422 dYa_tryMove_56 ?_
      refine X_iload C dYa_tryMove_59 rfl ?_
      refine X_aload C dYa_tryMove_61 rfl ?_
      have hq := o_bind hR
      clear hR
      obtain ⟨u424, hx428, hR⟩ := hq
      obtain ⟨fs425, he426, hv427⟩ := gi_e hx428
      refine X_get (k := 1) C oWa fwYa_200 he426 hv427 dYa_tryMove_63 ?_
      have hq := o_bind hR
      clear hR
      obtain ⟨a429, rfl, hR⟩ := hq
      have hq := o_bind hR
      clear hR
      obtain ⟨h430, hh431, hR⟩ := hq
      obtain ⟨n432, f433, he434, hi435, e436⟩ := pa_e hh431
      refine X_iast C rfl he434 hi435 dYa_tryMove_66 ?_
      rw [← e436]
      refine X_aload_n C dYa_tryMove_67 rfl ?_
      have hq := o_bind hR
      clear hR
      obtain ⟨w437, hx441, hR⟩ := hq
      obtain ⟨fs438, he439, hv440⟩ := gq_e hx441
      refine X_get (k := 11) C oYa fwYa_39 he439 hv440 dYa_tryMove_68 ?_
      refine X_aload_n C dYa_tryMove_71 rfl ?_
      have hq := o_bind hR
      clear hR
      obtain ⟨w442, hx446, hR⟩ := hq
      obtain ⟨fs443, he444, hv445⟩ := gq_e hx446
      refine X_get (k := 3) C oSt fwYa_114 he444 hv445 dYa_tryMove_72 ?_
      have hq := o_bind hR
      clear hR
      obtain ⟨a447, rfl, hR⟩ := hq
      have hq := o_if hR
      clear hR
      obtain ⟨k797, hR⟩ := hq
      obtain ⟨fs798, he799⟩ := kc_e k797
      have hq := o_bind hR
      clear hR
      obtain ⟨r448, hr448, hR⟩ := hq
      refine X_callVk (As := [va_rf (w442)]) (rest := []) C (Zo_becomeAs_c hr448) wYa_117 ⟨by decide, by decide⟩ ⟨by omega, by omega⟩ he799 oZo.2.1 rfl rfl (Nat.le_of_ble_eq_true rfl) dYa_tryMove_75 ?_
      show X F G B _ 9 (r448.2) _ _ _ _ _ []
      refine X_aload_n C dYa_tryMove_78 rfl ?_
      refine X_aload_n C dYa_tryMove_79 rfl ?_
      have hq := o_bind hR
      clear hR
      obtain ⟨w449, hx453, hR⟩ := hq
      obtain ⟨fs450, he451, hv452⟩ := gq_e hx453
      refine X_get (k := 11) C oYa fwYa_39 he451 hv452 dYa_tryMove_80 ?_
      refine X_aload C dYa_tryMove_83 rfl ?_
      refine X_aload C dYa_tryMove_85 rfl ?_
      have hq := o_if hR
      clear hR
      obtain ⟨k794, hR⟩ := hq
      obtain ⟨fs795, he796⟩ := kc_e k794
      have hq := o_bind hR
      clear hR
      obtain ⟨r454, hr454, hR⟩ := hq
      refine X_callVk (As := [va_rf (w449), .ref (a7), .ref (a54)]) (rest := []) C (Ya_follow_c hr454) wYa_203 ⟨by decide, by decide⟩ ⟨by omega, by omega⟩ he796 oYa.2.1 rfl rfl (Nat.le_of_ble_eq_true rfl) dYa_tryMove_87 ?_
      show X F G B _ 9 (r454.2) _ _ _ _ _ []
      refine X_aload_n C dYa_tryMove_90 rfl ?_
      refine X_aload_n C dYa_tryMove_91 rfl ?_
      have hq := o_bind hR
      clear hR
      obtain ⟨w455, hx459, hR⟩ := hq
      obtain ⟨fs456, he457, hv458⟩ := gq_e hx459
      refine X_get (k := 11) C oYa fwYa_39 he457 hv458 dYa_tryMove_92 ?_
      have hq := o_if hR
      clear hR
      obtain ⟨k791, hR⟩ := hq
      obtain ⟨fs792, he793⟩ := kc_e k791
      have hq := o_bind hR
      clear hR
      obtain ⟨r460, hr460, hR⟩ := hq
      refine X_callVk (As := [va_rf (w455)]) (rest := []) C (Ya_stay_c hr460) wYa_94 ⟨by decide, by decide⟩ ⟨by omega, by omega⟩ he793 oYa.2.1 rfl rfl (Nat.le_of_ble_eq_true rfl) dYa_tryMove_95 ?_
      show X F G B _ 9 (r460.2) _ _ _ _ _ []
      refine X_aload_n C dYa_tryMove_98 rfl ?_
      have hq := o_bind hR
      clear hR
      obtain ⟨w461, hx465, hR⟩ := hq
      obtain ⟨fs462, he463, hv464⟩ := gq_e hx465
      refine X_get (k := 11) C oYa fwYa_39 he463 hv464 dYa_tryMove_99 ?_
      have hq := o_bind hR
      clear hR
      obtain ⟨a466, rfl, hR⟩ := hq
      have hq := o_bind hR
      clear hR
      obtain ⟨u467, hx471, hR⟩ := hq
      obtain ⟨fs468, he469, hv470⟩ := gi_e hx471
      refine X_get (k := 2) C oZo fwYa_97 he469 hv470 dYa_tryMove_102 ?_
      refine X_if_eq (tgt := 110) C dYa_tryMove_105 (by decide) (fun c472 => ?_) (fun c472 => ?_)
      · rw [if_pos c472] at hR
        refine X_aload_n C dYa_tryMove_110 rfl ?_
        refine X_dup C dYa_tryMove_111 rfl ?_
        have hq := o_bind hR
        clear hR
        obtain ⟨u473, hx477, hR⟩ := hq
        obtain ⟨fs474, he475, hv476⟩ := gi_e hx477
        refine X_get (k := 7) C oSt fwYa_187 he475 hv476 dYa_tryMove_112 ?_
        refine X_iconst (v := 1) C dYa_tryMove_115 rfl ?_
        refine X_iadd C dYa_tryMove_116 ?_
        have hq := o_bind hR
        clear hR
        obtain ⟨h478, hh479, hR⟩ := hq
        obtain ⟨fs480, he481, hl482, e483⟩ := pf_e hh479
        refine X_put (k := 7) C oSt fwYa_187 rfl he481 rfl rfl hl482 dYa_tryMove_117 ?_
        rw [← e483]
        refine X_aload_n C dYa_tryMove_120 rfl ?_
        have hq := o_bind hR
        clear hR
        obtain ⟨u484, hx488, hR⟩ := hq
        obtain ⟨fs485, he486, hv487⟩ := gi_e hx488
        refine X_get (k := 8) C oYa fwYa_23 he486 hv487 dYa_tryMove_121 ?_
        refine X_if_eq (tgt := 138) C dYa_tryMove_124 (by decide) (fun c489 => ?_) (fun c489 => ?_)
        · rw [if_pos c489] at hR
          refine X_aload_n C dYa_tryMove_138 rfl ?_
          have hq := o_if hR
          clear hR
          obtain ⟨k630, hR⟩ := hq
          obtain ⟨fs631, he632⟩ := kc_e k630
          have hq := o_bind hR
          clear hR
          obtain ⟨r490, hr490, hR⟩ := hq
          refine X_callVk (As := []) (rest := []) C (Ya_isCovered_c hr490) wYa_207 ⟨by decide, by decide⟩ ⟨by omega, by omega⟩ he632 oYa.2.1 rfl rfl (Nat.le_of_ble_eq_true rfl) dYa_tryMove_139 ?_
          show X F G B _ 9 (r490.2) _ _ _ _ _ [.int (r490.1)]
          refine X_if_eq (tgt := 157) C dYa_tryMove_142 (by decide) (fun c491 => ?_) (fun c491 => ?_)
          · rw [if_pos c491] at hR
            refine X_aload_n C dYa_tryMove_157 rfl ?_
            have hq := o_bind hR
            clear hR
            obtain ⟨u492, hx496, hR⟩ := hq
            obtain ⟨fs493, he494, hv495⟩ := gi_e hx496
            refine X_get (k := 3) C oYa fwYa_65 he494 hv495 dYa_tryMove_158 ?_
            refine X_sipush (v := 200) C dYa_tryMove_161 (by decide) ?_
            refine X_icmp_lt (tgt := 169) C dYa_tryMove_164 (by decide) (fun c497 => ?_) (fun c497 => ?_)
            · rw [if_pos c497] at hR
              refine X_aload_n C dYa_tryMove_169 rfl ?_
              refine X_aload_n C dYa_tryMove_170 rfl ?_
              have hq := o_if hR
              clear hR
              obtain ⟨k616, hR⟩ := hq
              obtain ⟨fs617, he618⟩ := kc_e k616
              have hq := o_bind hR
              clear hR
              obtain ⟨r498, hr498, hR⟩ := hq
              have hq := o_add hR
              clear hR
              obtain ⟨R615, e614, hR⟩ := hq
              subst e614
              dsimp only at hm hs hz ⊢
              refine X_callVa (As := [.ref (a9)]) (rest := []) C (Ya_newState_c hr498) wYa_100 ⟨by decide, by decide⟩ ⟨by omega, by omega⟩ he618 oYa.2.1 rfl rfl (Nat.le_of_ble_eq_true rfl) dYa_tryMove_171 ?_
              show X F G B _ 9 (r498.2.1) _ _ _ _ _ [va_rf (r498.1)]
              have hq := b_bnd hR
              clear hR
              obtain ⟨w499, e500, hR⟩ := hq
              rw [← e500]
              refine X_astoreq (lv' := [(8, va_rf (w499)), (7, .ref (a54)), (6, .ref (a7)), (0, .ref (o)), (1, .ref (a9)), (2, .int (x2)), (3, .int (x3)), (4, .int (x4)), (5, .int (x5))]) C dYa_tryMove_174 (by decide) rfl ?_
              refine X_aloadq C dYa_tryMove_176 rfl ?_
              have hq := o_bind hR
              clear hR
              obtain ⟨a501, rfl, hR⟩ := hq
              have hq := o_bind hR
              clear hR
              obtain ⟨w502, hx506, hR⟩ := hq
              obtain ⟨fs503, he504, hv505⟩ := gq_e hx506
              refine X_get (k := 3) C oSt fwYa_114 he504 hv505 dYa_tryMove_178 ?_
              refine X_aload_n C dYa_tryMove_181 rfl ?_
              have hq := o_bind hR
              clear hR
              obtain ⟨w507, hx511, hR⟩ := hq
              obtain ⟨fs508, he509, hv510⟩ := gq_e hx511
              refine X_get (k := 11) C oYa fwYa_39 he509 hv510 dYa_tryMove_182 ?_
              have hq := o_bind hR
              clear hR
              obtain ⟨a512, rfl, hR⟩ := hq
              have hq := o_if hR
              clear hR
              obtain ⟨k611, hR⟩ := hq
              obtain ⟨fs612, he613⟩ := kc_e k611
              have hq := o_bind hR
              clear hR
              obtain ⟨r513, hr513, hR⟩ := hq
              refine X_callVk (As := [va_rf (w507)]) (rest := []) C (Zo_becomeAs_c hr513) wYa_117 ⟨by decide, by decide⟩ ⟨by omega, by omega⟩ he613 oZo.2.1 rfl rfl (Nat.le_of_ble_eq_true rfl) dYa_tryMove_185 ?_
              show X F G B _ 9 (r513.2) _ _ _ _ _ []
              refine X_aload C dYa_tryMove_188 rfl ?_
              have hq := o_bind hR
              clear hR
              obtain ⟨w514, hx518, hR⟩ := hq
              obtain ⟨fs515, he516, hv517⟩ := gq_e hx518
              refine X_get (k := 4) C oSt fwYa_104 he516 hv517 dYa_tryMove_190 ?_
              refine X_aload_n C dYa_tryMove_193 rfl ?_
              have hq := o_bind hR
              clear hR
              obtain ⟨w519, hx523, hR⟩ := hq
              obtain ⟨fs520, he521, hv522⟩ := gq_e hx523
              refine X_get (k := 4) C oSt fwYa_104 he521 hv522 dYa_tryMove_194 ?_
              have hq := o_bind hR
              clear hR
              obtain ⟨a524, rfl, hR⟩ := hq
              have hq := o_if hR
              clear hR
              obtain ⟨k608, hR⟩ := hq
              obtain ⟨fs609, he610⟩ := kc_e k608
              have hq := o_bind hR
              clear hR
              obtain ⟨r525, hr525, hR⟩ := hq
              refine X_callVk (As := [va_rf (w519)]) (rest := []) C (Zo_becomeAs_c hr525) wYa_117 ⟨by decide, by decide⟩ ⟨by omega, by omega⟩ he610 oZo.2.1 rfl rfl (Nat.le_of_ble_eq_true rfl) dYa_tryMove_197 ?_
              show X F G B _ 9 (r525.2) _ _ _ _ _ []
              refine X_aload_n C dYa_tryMove_200 rfl ?_
              refine X_aload C dYa_tryMove_201 rfl ?_
              have hq := o_bind hR
              clear hR
              obtain ⟨w526, hx530, hR⟩ := hq
              obtain ⟨fs527, he528, hv529⟩ := gq_e hx530
              refine X_get (k := 4) C oSt fwYa_104 he528 hv529 dYa_tryMove_203 ?_
              refine X_aload C dYa_tryMove_206 rfl ?_
              refine X_aload C dYa_tryMove_208 rfl ?_
              have hq := o_if hR
              clear hR
              obtain ⟨k605, hR⟩ := hq
              obtain ⟨fs606, he607⟩ := kc_e k605
              have hq := o_bind hR
              clear hR
              obtain ⟨r531, hr531, hR⟩ := hq
              refine X_callVk (As := [va_rf (w526), .ref (a7), .ref (a54)]) (rest := []) C (Ya_follow_c hr531) wYa_203 ⟨by decide, by decide⟩ ⟨by omega, by omega⟩ he607 oYa.2.1 rfl rfl (Nat.le_of_ble_eq_true rfl) dYa_tryMove_210 ?_
              show X F G B _ 9 (r531.2) _ _ _ _ _ []
              refine X_aload C dYa_tryMove_213 rfl ?_
              refine X_aload C dYa_tryMove_215 rfl ?_
              have hq := o_bind hR
              clear hR
              obtain ⟨w532, hx536, hR⟩ := hq
              obtain ⟨fs533, he534, hv535⟩ := gq_e hx536
              refine X_get (k := 4) C oSt fwYa_104 he534 hv535 dYa_tryMove_217 ?_
              have hq := o_bind hR
              clear hR
              obtain ⟨r537, hr537, hR⟩ := hq
              refine X_callSk (As := [va_rf (w532)]) (rest := [.ref (a501)]) C (Ya_leastTotal_c hr537) wYa_211 ⟨by decide, by decide⟩ ⟨by omega, by omega⟩ rfl rfl (Nat.le_of_ble_eq_true rfl) dYa_tryMove_220 ?_
              show X F G B _ 9 (r537.2) _ _ _ _ _ [.int (r537.1), .ref (a501)]
              have hq := o_bind hR
              clear hR
              obtain ⟨h538, hh539, hR⟩ := hq
              obtain ⟨fs540, he541, hl542, e543⟩ := pf_e hh539
              refine X_put (k := 10) C oSt fwYa_107 rfl he541 rfl rfl hl542 dYa_tryMove_223 ?_
              rw [← e543]
              refine X_aload_n C dYa_tryMove_226 rfl ?_
              refine X_aload C dYa_tryMove_227 rfl ?_
              have hq := o_bind hR
              clear hR
              obtain ⟨w544, hx548, hR⟩ := hq
              obtain ⟨fs545, he546, hv547⟩ := gq_e hx548
              refine X_get (k := 4) C oSt fwYa_104 he546 hv547 dYa_tryMove_229 ?_
              have hq := o_if hR
              clear hR
              obtain ⟨k602, hR⟩ := hq
              obtain ⟨fs603, he604⟩ := kc_e k602
              have hq := o_bind hR
              clear hR
              obtain ⟨r549, hr549, hR⟩ := hq
              refine X_callVk (As := [va_rf (w544)]) (rest := []) C (Ya_stay_c hr549) wYa_94 ⟨by decide, by decide⟩ ⟨by omega, by omega⟩ he604 oYa.2.1 rfl rfl (Nat.le_of_ble_eq_true rfl) dYa_tryMove_232 ?_
              show X F G B _ 9 (r549.2) _ _ _ _ _ []
              refine X_aload C dYa_tryMove_235 rfl ?_
              have hq := o_bind hR
              clear hR
              obtain ⟨w550, hx554, hR⟩ := hq
              obtain ⟨fs551, he552, hv553⟩ := gq_e hx554
              refine X_get (k := 2) C oSt fwYa_215 he552 hv553 dYa_tryMove_237 ?_
              refine X_iconst (v := 0) C dYa_tryMove_240 rfl ?_
              refine X_iload_n C dYa_tryMove_241 rfl ?_
              have hq := o_bind hR
              clear hR
              obtain ⟨a555, rfl, hR⟩ := hq
              have hq := o_bind hR
              clear hR
              obtain ⟨h556, hh557, hR⟩ := hq
              obtain ⟨n558, f559, he560, hi561, e562⟩ := pa_e hh557
              refine X_iast C rfl he560 hi561 dYa_tryMove_242 ?_
              rw [← e562]
              refine X_aload C dYa_tryMove_243 rfl ?_
              have hq := o_bind hR
              clear hR
              obtain ⟨w563, hx567, hR⟩ := hq
              obtain ⟨fs564, he565, hv566⟩ := gq_e hx567
              refine X_get (k := 2) C oSt fwYa_215 he565 hv566 dYa_tryMove_245 ?_
              refine X_iconst (v := 1) C dYa_tryMove_248 rfl ?_
              refine X_iload_n C dYa_tryMove_249 rfl ?_
              have hq := o_bind hR
              clear hR
              obtain ⟨a568, rfl, hR⟩ := hq
              have hq := o_bind hR
              clear hR
              obtain ⟨h569, hh570, hR⟩ := hq
              obtain ⟨n571, f572, he573, hi574, e575⟩ := pa_e hh570
              refine X_iast C rfl he573 hi574 dYa_tryMove_250 ?_
              rw [← e575]
              refine X_aload C dYa_tryMove_251 rfl ?_
              have hq := o_bind hR
              clear hR
              obtain ⟨w576, hx580, hR⟩ := hq
              obtain ⟨fs577, he578, hv579⟩ := gq_e hx580
              refine X_get (k := 2) C oSt fwYa_215 he578 hv579 dYa_tryMove_253 ?_
              refine X_iconst (v := 2) C dYa_tryMove_256 rfl ?_
              refine X_iload C dYa_tryMove_257 rfl ?_
              have hq := o_bind hR
              clear hR
              obtain ⟨a581, rfl, hR⟩ := hq
              have hq := o_bind hR
              clear hR
              obtain ⟨h582, hh583, hR⟩ := hq
              obtain ⟨n584, f585, he586, hi587, e588⟩ := pa_e hh583
              refine X_iast C rfl he586 hi587 dYa_tryMove_259 ?_
              rw [← e588]
              refine X_aload C dYa_tryMove_260 rfl ?_
              have hq := o_bind hR
              clear hR
              obtain ⟨w589, hx593, hR⟩ := hq
              obtain ⟨fs590, he591, hv592⟩ := gq_e hx593
              refine X_get (k := 2) C oSt fwYa_215 he591 hv592 dYa_tryMove_262 ?_
              refine X_iconst (v := 3) C dYa_tryMove_265 rfl ?_
              refine X_iload C dYa_tryMove_266 rfl ?_
              have hq := o_bind hR
              clear hR
              obtain ⟨a594, rfl, hR⟩ := hq
              have hq := o_bind hR
              clear hR
              obtain ⟨h595, hh596, hR⟩ := hq
              obtain ⟨n597, f598, he599, hi600, e601⟩ := pa_e hh596
              refine X_iast C rfl he599 hi600 dYa_tryMove_268 ?_
              rw [← e601]
              refine X_iconst (v := 1) C dYa_tryMove_269 rfl ?_
              have hR := Option.some.inj hR
              subst hR
              dsimp only at hm hs hz ⊢
              exact X_zret C hr rfl (by omega) (by omega) dYa_tryMove_270 ⟨rfl, rfl, by omega⟩
            · rw [if_neg c497] at hR
              refine X_iconst (v := 0) C dYa_tryMove_167 rfl ?_
              have hR := Option.some.inj hR
              subst hR
              dsimp only at hm hs hz ⊢
              exact X_zret C hr rfl (by omega) (by omega) dYa_tryMove_168 ⟨rfl, rfl, by omega⟩
          · rw [if_neg c491] at hR
            refine X_aload_n C dYa_tryMove_145 rfl ?_
            refine X_dup C dYa_tryMove_146 rfl ?_
            have hq := o_bind hR
            clear hR
            obtain ⟨u619, hx623, hR⟩ := hq
            obtain ⟨fs620, he621, hv622⟩ := gi_e hx623
            refine X_get (k := 8) C oSt fwYa_188 he621 hv622 dYa_tryMove_147 ?_
            refine X_iconst (v := 1) C dYa_tryMove_150 rfl ?_
            refine X_iadd C dYa_tryMove_151 ?_
            have hq := o_bind hR
            clear hR
            obtain ⟨h624, hh625, hR⟩ := hq
            obtain ⟨fs626, he627, hl628, e629⟩ := pf_e hh625
            refine X_put (k := 8) C oSt fwYa_188 rfl he627 rfl rfl hl628 dYa_tryMove_152 ?_
            rw [← e629]
            refine X_iconst (v := 1) C dYa_tryMove_155 rfl ?_
            have hR := Option.some.inj hR
            subst hR
            dsimp only at hm hs hz ⊢
            exact X_zret C hr rfl (by omega) (by omega) dYa_tryMove_156 ⟨rfl, rfl, by omega⟩
        · rw [if_neg c489] at hR
          refine X_aload_n C dYa_tryMove_127 rfl ?_
          have hq := o_bind hR
          clear hR
          obtain ⟨w633, hx637, hR⟩ := hq
          obtain ⟨fs634, he635, hv636⟩ := gq_e hx637
          refine X_get (k := 11) C oYa fwYa_39 he635 hv636 dYa_tryMove_128 ?_
          refine X_aload_n C dYa_tryMove_131 rfl ?_
          have hq := o_bind hR
          clear hR
          obtain ⟨w638, hx642, hR⟩ := hq
          obtain ⟨fs639, he640, hv641⟩ := gq_e hx642
          refine X_get (k := 9) C oYa fwYa_27 he640 hv641 dYa_tryMove_132 ?_
          have hq := o_bind hR
          clear hR
          obtain ⟨a643, rfl, hR⟩ := hq
          have hq := o_if hR
          clear hR
          obtain ⟨k788, hR⟩ := hq
          obtain ⟨fs789, he790⟩ := kc_e k788
          have hq := o_bind hR
          clear hR
          obtain ⟨r644, hr644, hR⟩ := hq
          refine X_callVk (As := [va_rf (w638)]) (rest := []) C (Zo_loosen_c hr644) wYa_110 ⟨by decide, by decide⟩ ⟨by omega, by omega⟩ he790 oZo.2.1 rfl rfl (Nat.le_of_ble_eq_true rfl) dYa_tryMove_135 ?_
          show X F G B _ 9 (r644.2) _ _ _ _ _ []
          refine X_aload_n C dYa_tryMove_138 rfl ?_
          have hq := o_if hR
          clear hR
          obtain ⟨k785, hR⟩ := hq
          obtain ⟨fs786, he787⟩ := kc_e k785
          have hq := o_bind hR
          clear hR
          obtain ⟨r645, hr645, hR⟩ := hq
          refine X_callVk (As := []) (rest := []) C (Ya_isCovered_c hr645) wYa_207 ⟨by decide, by decide⟩ ⟨by omega, by omega⟩ he787 oYa.2.1 rfl rfl (Nat.le_of_ble_eq_true rfl) dYa_tryMove_139 ?_
          show X F G B _ 9 (r645.2) _ _ _ _ _ [.int (r645.1)]
          refine X_if_eq (tgt := 157) C dYa_tryMove_142 (by decide) (fun c646 => ?_) (fun c646 => ?_)
          · rw [if_pos c646] at hR
            refine X_aload_n C dYa_tryMove_157 rfl ?_
            have hq := o_bind hR
            clear hR
            obtain ⟨u647, hx651, hR⟩ := hq
            obtain ⟨fs648, he649, hv650⟩ := gi_e hx651
            refine X_get (k := 3) C oYa fwYa_65 he649 hv650 dYa_tryMove_158 ?_
            refine X_sipush (v := 200) C dYa_tryMove_161 (by decide) ?_
            refine X_icmp_lt (tgt := 169) C dYa_tryMove_164 (by decide) (fun c652 => ?_) (fun c652 => ?_)
            · rw [if_pos c652] at hR
              refine X_aload_n C dYa_tryMove_169 rfl ?_
              refine X_aload_n C dYa_tryMove_170 rfl ?_
              have hq := o_if hR
              clear hR
              obtain ⟨k771, hR⟩ := hq
              obtain ⟨fs772, he773⟩ := kc_e k771
              have hq := o_bind hR
              clear hR
              obtain ⟨r653, hr653, hR⟩ := hq
              have hq := o_add hR
              clear hR
              obtain ⟨R770, e769, hR⟩ := hq
              subst e769
              dsimp only at hm hs hz ⊢
              refine X_callVa (As := [.ref (a9)]) (rest := []) C (Ya_newState_c hr653) wYa_100 ⟨by decide, by decide⟩ ⟨by omega, by omega⟩ he773 oYa.2.1 rfl rfl (Nat.le_of_ble_eq_true rfl) dYa_tryMove_171 ?_
              show X F G B _ 9 (r653.2.1) _ _ _ _ _ [va_rf (r653.1)]
              have hq := b_bnd hR
              clear hR
              obtain ⟨w654, e655, hR⟩ := hq
              rw [← e655]
              refine X_astoreq (lv' := [(8, va_rf (w654)), (7, .ref (a54)), (6, .ref (a7)), (0, .ref (o)), (1, .ref (a9)), (2, .int (x2)), (3, .int (x3)), (4, .int (x4)), (5, .int (x5))]) C dYa_tryMove_174 (by decide) rfl ?_
              refine X_aloadq C dYa_tryMove_176 rfl ?_
              have hq := o_bind hR
              clear hR
              obtain ⟨a656, rfl, hR⟩ := hq
              have hq := o_bind hR
              clear hR
              obtain ⟨w657, hx661, hR⟩ := hq
              obtain ⟨fs658, he659, hv660⟩ := gq_e hx661
              refine X_get (k := 3) C oSt fwYa_114 he659 hv660 dYa_tryMove_178 ?_
              refine X_aload_n C dYa_tryMove_181 rfl ?_
              have hq := o_bind hR
              clear hR
              obtain ⟨w662, hx666, hR⟩ := hq
              obtain ⟨fs663, he664, hv665⟩ := gq_e hx666
              refine X_get (k := 11) C oYa fwYa_39 he664 hv665 dYa_tryMove_182 ?_
              have hq := o_bind hR
              clear hR
              obtain ⟨a667, rfl, hR⟩ := hq
              have hq := o_if hR
              clear hR
              obtain ⟨k766, hR⟩ := hq
              obtain ⟨fs767, he768⟩ := kc_e k766
              have hq := o_bind hR
              clear hR
              obtain ⟨r668, hr668, hR⟩ := hq
              refine X_callVk (As := [va_rf (w662)]) (rest := []) C (Zo_becomeAs_c hr668) wYa_117 ⟨by decide, by decide⟩ ⟨by omega, by omega⟩ he768 oZo.2.1 rfl rfl (Nat.le_of_ble_eq_true rfl) dYa_tryMove_185 ?_
              show X F G B _ 9 (r668.2) _ _ _ _ _ []
              refine X_aload C dYa_tryMove_188 rfl ?_
              have hq := o_bind hR
              clear hR
              obtain ⟨w669, hx673, hR⟩ := hq
              obtain ⟨fs670, he671, hv672⟩ := gq_e hx673
              refine X_get (k := 4) C oSt fwYa_104 he671 hv672 dYa_tryMove_190 ?_
              refine X_aload_n C dYa_tryMove_193 rfl ?_
              have hq := o_bind hR
              clear hR
              obtain ⟨w674, hx678, hR⟩ := hq
              obtain ⟨fs675, he676, hv677⟩ := gq_e hx678
              refine X_get (k := 4) C oSt fwYa_104 he676 hv677 dYa_tryMove_194 ?_
              have hq := o_bind hR
              clear hR
              obtain ⟨a679, rfl, hR⟩ := hq
              have hq := o_if hR
              clear hR
              obtain ⟨k763, hR⟩ := hq
              obtain ⟨fs764, he765⟩ := kc_e k763
              have hq := o_bind hR
              clear hR
              obtain ⟨r680, hr680, hR⟩ := hq
              refine X_callVk (As := [va_rf (w674)]) (rest := []) C (Zo_becomeAs_c hr680) wYa_117 ⟨by decide, by decide⟩ ⟨by omega, by omega⟩ he765 oZo.2.1 rfl rfl (Nat.le_of_ble_eq_true rfl) dYa_tryMove_197 ?_
              show X F G B _ 9 (r680.2) _ _ _ _ _ []
              refine X_aload_n C dYa_tryMove_200 rfl ?_
              refine X_aload C dYa_tryMove_201 rfl ?_
              have hq := o_bind hR
              clear hR
              obtain ⟨w681, hx685, hR⟩ := hq
              obtain ⟨fs682, he683, hv684⟩ := gq_e hx685
              refine X_get (k := 4) C oSt fwYa_104 he683 hv684 dYa_tryMove_203 ?_
              refine X_aload C dYa_tryMove_206 rfl ?_
              refine X_aload C dYa_tryMove_208 rfl ?_
              have hq := o_if hR
              clear hR
              obtain ⟨k760, hR⟩ := hq
              obtain ⟨fs761, he762⟩ := kc_e k760
              have hq := o_bind hR
              clear hR
              obtain ⟨r686, hr686, hR⟩ := hq
              refine X_callVk (As := [va_rf (w681), .ref (a7), .ref (a54)]) (rest := []) C (Ya_follow_c hr686) wYa_203 ⟨by decide, by decide⟩ ⟨by omega, by omega⟩ he762 oYa.2.1 rfl rfl (Nat.le_of_ble_eq_true rfl) dYa_tryMove_210 ?_
              show X F G B _ 9 (r686.2) _ _ _ _ _ []
              refine X_aload C dYa_tryMove_213 rfl ?_
              refine X_aload C dYa_tryMove_215 rfl ?_
              have hq := o_bind hR
              clear hR
              obtain ⟨w687, hx691, hR⟩ := hq
              obtain ⟨fs688, he689, hv690⟩ := gq_e hx691
              refine X_get (k := 4) C oSt fwYa_104 he689 hv690 dYa_tryMove_217 ?_
              have hq := o_bind hR
              clear hR
              obtain ⟨r692, hr692, hR⟩ := hq
              refine X_callSk (As := [va_rf (w687)]) (rest := [.ref (a656)]) C (Ya_leastTotal_c hr692) wYa_211 ⟨by decide, by decide⟩ ⟨by omega, by omega⟩ rfl rfl (Nat.le_of_ble_eq_true rfl) dYa_tryMove_220 ?_
              show X F G B _ 9 (r692.2) _ _ _ _ _ [.int (r692.1), .ref (a656)]
              have hq := o_bind hR
              clear hR
              obtain ⟨h693, hh694, hR⟩ := hq
              obtain ⟨fs695, he696, hl697, e698⟩ := pf_e hh694
              refine X_put (k := 10) C oSt fwYa_107 rfl he696 rfl rfl hl697 dYa_tryMove_223 ?_
              rw [← e698]
              refine X_aload_n C dYa_tryMove_226 rfl ?_
              refine X_aload C dYa_tryMove_227 rfl ?_
              have hq := o_bind hR
              clear hR
              obtain ⟨w699, hx703, hR⟩ := hq
              obtain ⟨fs700, he701, hv702⟩ := gq_e hx703
              refine X_get (k := 4) C oSt fwYa_104 he701 hv702 dYa_tryMove_229 ?_
              have hq := o_if hR
              clear hR
              obtain ⟨k757, hR⟩ := hq
              obtain ⟨fs758, he759⟩ := kc_e k757
              have hq := o_bind hR
              clear hR
              obtain ⟨r704, hr704, hR⟩ := hq
              refine X_callVk (As := [va_rf (w699)]) (rest := []) C (Ya_stay_c hr704) wYa_94 ⟨by decide, by decide⟩ ⟨by omega, by omega⟩ he759 oYa.2.1 rfl rfl (Nat.le_of_ble_eq_true rfl) dYa_tryMove_232 ?_
              show X F G B _ 9 (r704.2) _ _ _ _ _ []
              refine X_aload C dYa_tryMove_235 rfl ?_
              have hq := o_bind hR
              clear hR
              obtain ⟨w705, hx709, hR⟩ := hq
              obtain ⟨fs706, he707, hv708⟩ := gq_e hx709
              refine X_get (k := 2) C oSt fwYa_215 he707 hv708 dYa_tryMove_237 ?_
              refine X_iconst (v := 0) C dYa_tryMove_240 rfl ?_
              refine X_iload_n C dYa_tryMove_241 rfl ?_
              have hq := o_bind hR
              clear hR
              obtain ⟨a710, rfl, hR⟩ := hq
              have hq := o_bind hR
              clear hR
              obtain ⟨h711, hh712, hR⟩ := hq
              obtain ⟨n713, f714, he715, hi716, e717⟩ := pa_e hh712
              refine X_iast C rfl he715 hi716 dYa_tryMove_242 ?_
              rw [← e717]
              refine X_aload C dYa_tryMove_243 rfl ?_
              have hq := o_bind hR
              clear hR
              obtain ⟨w718, hx722, hR⟩ := hq
              obtain ⟨fs719, he720, hv721⟩ := gq_e hx722
              refine X_get (k := 2) C oSt fwYa_215 he720 hv721 dYa_tryMove_245 ?_
              refine X_iconst (v := 1) C dYa_tryMove_248 rfl ?_
              refine X_iload_n C dYa_tryMove_249 rfl ?_
              have hq := o_bind hR
              clear hR
              obtain ⟨a723, rfl, hR⟩ := hq
              have hq := o_bind hR
              clear hR
              obtain ⟨h724, hh725, hR⟩ := hq
              obtain ⟨n726, f727, he728, hi729, e730⟩ := pa_e hh725
              refine X_iast C rfl he728 hi729 dYa_tryMove_250 ?_
              rw [← e730]
              refine X_aload C dYa_tryMove_251 rfl ?_
              have hq := o_bind hR
              clear hR
              obtain ⟨w731, hx735, hR⟩ := hq
              obtain ⟨fs732, he733, hv734⟩ := gq_e hx735
              refine X_get (k := 2) C oSt fwYa_215 he733 hv734 dYa_tryMove_253 ?_
              refine X_iconst (v := 2) C dYa_tryMove_256 rfl ?_
              refine X_iload C dYa_tryMove_257 rfl ?_
              have hq := o_bind hR
              clear hR
              obtain ⟨a736, rfl, hR⟩ := hq
              have hq := o_bind hR
              clear hR
              obtain ⟨h737, hh738, hR⟩ := hq
              obtain ⟨n739, f740, he741, hi742, e743⟩ := pa_e hh738
              refine X_iast C rfl he741 hi742 dYa_tryMove_259 ?_
              rw [← e743]
              refine X_aload C dYa_tryMove_260 rfl ?_
              have hq := o_bind hR
              clear hR
              obtain ⟨w744, hx748, hR⟩ := hq
              obtain ⟨fs745, he746, hv747⟩ := gq_e hx748
              refine X_get (k := 2) C oSt fwYa_215 he746 hv747 dYa_tryMove_262 ?_
              refine X_iconst (v := 3) C dYa_tryMove_265 rfl ?_
              refine X_iload C dYa_tryMove_266 rfl ?_
              have hq := o_bind hR
              clear hR
              obtain ⟨a749, rfl, hR⟩ := hq
              have hq := o_bind hR
              clear hR
              obtain ⟨h750, hh751, hR⟩ := hq
              obtain ⟨n752, f753, he754, hi755, e756⟩ := pa_e hh751
              refine X_iast C rfl he754 hi755 dYa_tryMove_268 ?_
              rw [← e756]
              refine X_iconst (v := 1) C dYa_tryMove_269 rfl ?_
              have hR := Option.some.inj hR
              subst hR
              dsimp only at hm hs hz ⊢
              exact X_zret C hr rfl (by omega) (by omega) dYa_tryMove_270 ⟨rfl, rfl, by omega⟩
            · rw [if_neg c652] at hR
              refine X_iconst (v := 0) C dYa_tryMove_167 rfl ?_
              have hR := Option.some.inj hR
              subst hR
              dsimp only at hm hs hz ⊢
              exact X_zret C hr rfl (by omega) (by omega) dYa_tryMove_168 ⟨rfl, rfl, by omega⟩
          · rw [if_neg c646] at hR
            refine X_aload_n C dYa_tryMove_145 rfl ?_
            refine X_dup C dYa_tryMove_146 rfl ?_
            have hq := o_bind hR
            clear hR
            obtain ⟨u774, hx778, hR⟩ := hq
            obtain ⟨fs775, he776, hv777⟩ := gi_e hx778
            refine X_get (k := 8) C oSt fwYa_188 he776 hv777 dYa_tryMove_147 ?_
            refine X_iconst (v := 1) C dYa_tryMove_150 rfl ?_
            refine X_iadd C dYa_tryMove_151 ?_
            have hq := o_bind hR
            clear hR
            obtain ⟨h779, hh780, hR⟩ := hq
            obtain ⟨fs781, he782, hl783, e784⟩ := pf_e hh780
            refine X_put (k := 8) C oSt fwYa_188 rfl he782 rfl rfl hl783 dYa_tryMove_152 ?_
            rw [← e784]
            refine X_iconst (v := 1) C dYa_tryMove_155 rfl ?_
            have hR := Option.some.inj hR
            subst hR
            dsimp only at hm hs hz ⊢
            exact X_zret C hr rfl (by omega) (by omega) dYa_tryMove_156 ⟨rfl, rfl, by omega⟩
      · rw [if_neg c472] at hR
        refine X_iconst (v := 1) C dYa_tryMove_108 rfl ?_
        have hR := Option.some.inj hR
        subst hR
        dsimp only at hm hs hz ⊢
        exact X_zret C hr rfl (by omega) (by omega) dYa_tryMove_109 ⟨rfl, rfl, by omega⟩
  · subst e8
    rw [oel_n] at hR
    refine X_iconst (v := 1) C dYa_tryMove_23 rfl ?_
    have hR := Option.some.inj hR
    subst hR
    dsimp only at hm hs hz ⊢
    exact X_zret C hr rfl (by omega) (by omega) dYa_tryMove_24 ⟨rfl, rfl, by omega⟩
theorem Ya_tryMove_c {l : Launch} {G : xG} {B sz : Nat} {o : Nat} {n : Nat} {y1 : Option Nat} {x2 : Int32} {x3 : Int32} {x4 : Int32} {x5 : Int32} {h : xH} {R : Int32 × xH × Nat × Nat} (hR : Ya_tryMove_f n o y1 x2 x3 x4 x5 h sz = some R) : xCon l yYa_tryMove cYa_tryMove 9 (some .boolean) 4 96 R.2.2.1 R.2.2.2 G B [.ref (o), va_rf (y1), .int (x2), .int (x3), .int (x4), .int (x5)] h sz (kP (some (.int R.1)) R.2.1 (sz + R.2.2.1)) := xCon.of (by decide) (by simp [lg_sl, rf_cat, cat_i, cat_r, cat_l]) (fun F e C hr hnm => X_sub (lv' := [(0, .ref (o)), (1, va_rf (y1)), (2, .int (x2)), (3, .int (x3)), (4, .int (x4)), (5, .int (x5))]) [0, 1, 2, 3, 4, 5] (by simp [lv_args, lv_pick, rf_cat, cat_i, cat_r, cat_l]) (Ya_tryMove_x C hr (Nat.le_of_eq (Nat.zero_add _)) (Nat.le_of_eq (Nat.zero_add _)) rfl hR))
