def Ya_wayFrom_f (n : Nat) (o : Nat) (y1 : Option Nat) (x2 : Int32) (x3 : Int32) (h : xH) : Option (Option Nat × xH) := (if kc h (o) 3 = true then obd (Ya_wayAt_f n (o) (x2) (x3) h) (fun r1 => bnd (r1.1) (fun w2 => oel (w2) (some (none, r1.2)) (fun a4 => obd (gi r1.2 (a4) 7 0) (fun u6 => obd y1 (fun a11 => obd (gq r1.2 (a11) 2 1) (fun w12 => obd w12 (fun a17 => obd (ai r1.2 (a17) 0 (x2)) (fun u18 => (if u6 = u18 then some ((some (a4)), r1.2) else some (none, r1.2)))))))))) else none)
set_option maxRecDepth 100000 in
set_option maxHeartbeats 8000000 in
theorem Ya_wayFrom_x {F : xF} {G : xG} {B sz : Nat} {o : Nat} (C : xC F G B cYa_wayFrom RYa 5 2 44 0 0) (hr : (xFM F).sig.returnType = (some (.object "TimedYard$Way"))) {n : Nat} {y1 : Option Nat} {x2 : Int32} {x3 : Int32} {h : xH} {R : Option Nat × xH} (hR : Ya_wayFrom_f n o y1 x2 x3 h = some R) : X F G B (xZ F G B (kP (some (va_rf R.1)) R.2 sz) 0 0) 5 h sz 0 0 0 [(0, .ref (o)), (1, va_rf (y1)), (2, .int (x2)), (3, .int (x3))] [] := by
  unfold Ya_wayFrom_f at hR
  refine X_aload_n C dYa_wayFrom_0 rfl ?_
  refine X_iload_n C dYa_wayFrom_1 rfl ?_
  refine X_iload_n C dYa_wayFrom_2 rfl ?_
  have hq := o_if hR
  clear hR
  obtain ⟨k26, hR⟩ := hq
  obtain ⟨fs27, he28⟩ := kc_e k26
  have hq := o_bind hR
  clear hR
  obtain ⟨r1, hr1, hR⟩ := hq
  refine X_callVk (As := [.int (x2), .int (x3)]) (rest := []) C (Ya_wayAt_c hr1) wYa_129 ⟨by decide, by decide⟩ ⟨Nat.le_refl _, Nat.le_refl _⟩ he28 oYa.2.1 rfl rfl (Nat.le_of_ble_eq_true rfl) dYa_wayFrom_3 ?_
  show X F G B _ 5 (r1.2) _ _ _ _ _ [va_rf (r1.1)]
  have hq := b_bnd hR
  clear hR
  obtain ⟨w2, e3, hR⟩ := hq
  rw [← e3]
  refine X_astoreq (lv' := [(4, va_rf (w2)), (0, .ref (o)), (1, va_rf (y1)), (2, .int (x2)), (3, .int (x3))]) C dYa_wayFrom_6 (by decide) (by simp [rf_cat, cat_i, cat_r, cat_l, rf_n, rf_s] <;> decide) ?_
  refine X_aloadq C dYa_wayFrom_8 rfl ?_
  refine X_ifnullq (tgt := 32) C dYa_wayFrom_10 (by decide) (fun e5 => ?_) (fun a4 e5 => ?_)
  · subst e5
    rw [oel_n] at hR
    refine X_null C dYa_wayFrom_32 ?_
    rw [← Option.some.inj hR]
    exact X_aret C hr (Or.inl ⟨_, rfl⟩) (Or.inl rfl) (Nat.le_refl _) (Nat.le_refl _) dYa_wayFrom_33 ⟨rfl, rfl, rfl⟩
  · subst e5
    rw [oel_s] at hR
    refine X_aload C dYa_wayFrom_13 rfl ?_
    have hq := o_bind hR
    clear hR
    obtain ⟨u6, hx10, hR⟩ := hq
    obtain ⟨fs7, he8, hv9⟩ := gi_e hx10
    refine X_get (k := 0) C oWa fwYa_188 he8 hv9 dYa_wayFrom_15 ?_
    refine X_aload_nq C dYa_wayFrom_18 rfl ?_
    have hq := o_bind hR
    clear hR
    obtain ⟨a11, rfl, hR⟩ := hq
    have hq := o_bind hR
    clear hR
    obtain ⟨w12, hx16, hR⟩ := hq
    obtain ⟨fs13, he14, hv15⟩ := gq_e hx16
    refine X_get (k := 1) C oSt fwYa_191 he14 hv15 dYa_wayFrom_19 ?_
    refine X_iload_n C dYa_wayFrom_22 rfl ?_
    have hq := o_bind hR
    clear hR
    obtain ⟨a17, rfl, hR⟩ := hq
    have hq := o_bind hR
    clear hR
    obtain ⟨u18, hx19, hR⟩ := hq
    obtain ⟨n20, f21, he22, hi23, e24⟩ := ai_e hx19
    refine X_iald C rfl he22 hi23 dYa_wayFrom_23 ?_
    rw [← e24]
    refine X_icmp_ne (tgt := 32) C dYa_wayFrom_24 (by decide) (fun c25 => ?_) (fun c25 => ?_)
    · rw [if_neg c25] at hR
      refine X_null C dYa_wayFrom_32 ?_
      rw [← Option.some.inj hR]
      exact X_aret C hr (Or.inl ⟨_, rfl⟩) (Or.inl rfl) (Nat.le_refl _) (Nat.le_refl _) dYa_wayFrom_33 ⟨rfl, rfl, rfl⟩
    · rw [if_pos c25] at hR
      refine X_aload C dYa_wayFrom_27 rfl ?_
      refine X_goto (tgt := 33) C dYa_wayFrom_29 (by decide) ?_
      rw [← Option.some.inj hR]
      exact X_aret C hr (Or.inl ⟨_, rfl⟩) (Or.inr ⟨_, rfl⟩) (Nat.le_refl _) (Nat.le_refl _) dYa_wayFrom_33 ⟨rfl, rfl, rfl⟩
theorem Ya_wayFrom_c {l : Launch} {G : xG} {B sz : Nat} {o : Nat} {n : Nat} {y1 : Option Nat} {x2 : Int32} {x3 : Int32} {h : xH} {R : Option Nat × xH} (hR : Ya_wayFrom_f n o y1 x2 x3 h = some R) : xCon l yYa_wayFrom cYa_wayFrom 5 (some (.object "TimedYard$Way")) 2 44 0 0 G B [.ref (o), va_rf (y1), .int (x2), .int (x3)] h sz (kP (some (va_rf R.1)) R.2 sz) := xCon.of (by decide) (by simp [lg_sl, rf_cat, cat_i, cat_r, cat_l]) (fun F e C hr hnm => X_sub (lv' := [(0, .ref (o)), (1, va_rf (y1)), (2, .int (x2)), (3, .int (x3))]) [0, 1, 2, 3] (by simp [lv_args, lv_pick, rf_cat, cat_i, cat_r, cat_l]) (Ya_wayFrom_x C hr hR))
def Ya_obey_t0 (f : Nat → Option Nat → Option Nat → Int32 → xH → Option (Int32 × xH)) (n : Nat) (y0 : Option Nat) (y1 : Option Nat) (x2 : Int32) (h : xH) : Option (Int32 × xH) := f 2 (y0) (y1) ((0 : Int32)) h
def Ya_obey_t2 (f : Nat → Option Nat → Option Nat → Int32 → xH → Option (Int32 × xH)) (n : Nat) (y0 : Option Nat) (y1 : Option Nat) (x2 : Int32) (h : xH) : Option (Int32 × xH) := obd y1 (fun a1 => obd (gi h (a1) 7 6) (fun u2 => (if u2 ≤ x2 then some (0, h) else (if (3 : Int32) ≤ x2 then some (0, h) else obd (gq h (a1) 7 4) (fun w9 => obd w9 (fun a14 => obd (ai h (a14) 0 (x2)) (fun u15 => obd (gq h (a1) 7 4) (fun w22 => obd w22 (fun a27 => obd (ai h (a27) 0 (x2)) (fun u28 => obd (gq h (a1) 7 5) (fun w35 => obd w35 (fun a40 => obd (ai h (a40) 0 (x2)) (fun u41 => obd y0 (fun a48 => (if kc h (a48) 1 = true then obd (Zo_squeeze_f n 0 (a48) ((u15) / ((4 : Int32))) ((u28) - (u28) / ((4 : Int32)) * ((4 : Int32))) (u41) 0 0 0 h) (fun r49 => f 2 (some (a48)) (some (a1)) (x2 + 1) r49.2) else none)))))))))))))))
def Ya_obey_f : Nat → Nat → Option Nat → Option Nat → Int32 → xH → Option (Int32 × xH)
  | 0 => fun _ _ _ _ _ => none
  | n + 1 => fun p y0 y1 x2 h => if p = 0 then Ya_obey_t0 (Ya_obey_f n) n y0 y1 x2 h else if p = 2 then Ya_obey_t2 (Ya_obey_f n) n y0 y1 x2 h else none
theorem Ya_obey_e0 (n : Nat) (y0 : Option Nat) (y1 : Option Nat) (x2 : Int32) (h : xH) : Ya_obey_f (n + 1) 0 y0 y1 x2 h = Ya_obey_t0 (Ya_obey_f n) n y0 y1 x2 h := by
  show (if 0 = 0 then Ya_obey_t0 (Ya_obey_f n) n y0 y1 x2 h else if 0 = 2 then Ya_obey_t2 (Ya_obey_f n) n y0 y1 x2 h else none) = _
  rw [if_pos rfl]
theorem Ya_obey_e2 (n : Nat) (y0 : Option Nat) (y1 : Option Nat) (x2 : Int32) (h : xH) : Ya_obey_f (n + 1) 2 y0 y1 x2 h = Ya_obey_t2 (Ya_obey_f n) n y0 y1 x2 h := by
  show (if 2 = 0 then Ya_obey_t0 (Ya_obey_f n) n y0 y1 x2 h else if 2 = 2 then Ya_obey_t2 (Ya_obey_f n) n y0 y1 x2 h else none) = _
  rw [if_neg (by decide), if_pos rfl]
set_option maxRecDepth 100000 in
set_option maxHeartbeats 8000000 in
theorem Ya_obey_x {F : xF} {G : xG} {B sz : Nat} (C : xC F G B cYa_obey RYa 3 2 48 0 0) (hr : (xFM F).sig.returnType = none) : ∀ (n : Nat) (y0 : Option Nat) (y1 : Option Nat) (x2 : Int32) (h : xH) (R : Int32 × xH), (Ya_obey_f n 0 y0 y1 x2 h = some R → X F G B (xZ F G B (kP none R.2 sz) 0 0) 3 h sz 0 0 0 [(0, va_rf (y0)), (1, va_rf (y1))] []) ∧ (Ya_obey_f n 2 y0 y1 x2 h = some R → X F G B (xZ F G B (kP none R.2 sz) 0 0) 3 h sz 0 0 2 [(0, va_rf (y0)), (1, va_rf (y1)), (2, .int (x2))] []) := by
  intro n
  induction n with
  | zero => exact fun _ _ _ _ _ => ⟨(fun hR => nomatch (show (none : Option _) = some _ from hR)), (fun hR => nomatch (show (none : Option _) = some _ from hR))⟩
  | succ n ih =>
    intro y0 y1 x2 h R
    refine ⟨fun hR => ?_, fun hR => ?_⟩
    · rw [Ya_obey_e0] at hR
      unfold Ya_obey_t0 at hR
      refine X_iconst (v := 0) C dYa_obey_0 rfl ?_
      refine X_istore_n (lv' := [(2, .int ((0 : Int32))), (0, va_rf (y0)), (1, va_rf (y1))]) C dYa_obey_1 (by decide) (by simp [rf_cat, cat_i, cat_r, cat_l, rf_n, rf_s] <;> decide) ?_
      refine X_sub (lv' := [(0, va_rf ((y0))), (1, va_rf ((y1))), (2, .int ((0 : Int32)))]) [1, 2, 0] rfl ?_
      exact (ih (y0) (y1) ((0 : Int32)) _ _).2 hR
    · rw [Ya_obey_e2] at hR
      unfold Ya_obey_t2 at hR
      refine X_iload_n C dYa_obey_2 rfl ?_
      refine X_aload_nq C dYa_obey_3 rfl ?_
      have hq := o_bind hR
      clear hR
      obtain ⟨a1, rfl, hR⟩ := hq
      have hq := o_bind hR
      clear hR
      obtain ⟨u2, hx6, hR⟩ := hq
      obtain ⟨fs3, he4, hv5⟩ := gi_e hx6
      refine X_get (k := 6) C oWa fwYa_152 he4 hv5 dYa_obey_4 ?_
      refine X_icmp_ge (tgt := 47) C dYa_obey_7 (by decide) (fun c7 => ?_) (fun c7 => ?_)
      · rw [if_pos c7] at hR
        rw [← Option.some.inj hR]
        exact X_vret C hr (Nat.le_refl _) (Nat.le_refl _) dYa_obey_47 ⟨rfl, rfl, rfl⟩
      · rw [if_neg c7] at hR
        refine X_iload_n C dYa_obey_10 rfl ?_
        refine X_iconst (v := 3) C dYa_obey_11 rfl ?_
        refine X_icmp_ge (tgt := 47) C dYa_obey_12 (by decide) (fun c8 => ?_) (fun c8 => ?_)
        · rw [if_pos c8] at hR
          rw [← Option.some.inj hR]
          exact X_vret C hr (Nat.le_refl _) (Nat.le_refl _) dYa_obey_47 ⟨rfl, rfl, rfl⟩
        · rw [if_neg c8] at hR
          refine X_aload_nq C dYa_obey_15 rfl ?_
          refine X_aload_n C dYa_obey_16 rfl ?_
          have hq := o_bind hR
          clear hR
          obtain ⟨w9, hx13, hR⟩ := hq
          obtain ⟨fs10, he11, hv12⟩ := gq_e hx13
          refine X_get (k := 4) C oWa fwYa_157 he11 hv12 dYa_obey_17 ?_
          refine X_iload_n C dYa_obey_20 rfl ?_
          have hq := o_bind hR
          clear hR
          obtain ⟨a14, rfl, hR⟩ := hq
          have hq := o_bind hR
          clear hR
          obtain ⟨u15, hx16, hR⟩ := hq
          obtain ⟨n17, f18, he19, hi20, e21⟩ := ai_e hx16
          refine X_iald C rfl he19 hi20 dYa_obey_21 ?_
          rw [← e21]
          refine X_iconst (v := 4) C dYa_obey_22 rfl ?_
          refine X_idiv C dYa_obey_23 (by decide) ?_
          refine X_aload_n C dYa_obey_24 rfl ?_
          have hq := o_bind hR
          clear hR
          obtain ⟨w22, hx26, hR⟩ := hq
          obtain ⟨fs23, he24, hv25⟩ := gq_e hx26
          refine X_get (k := 4) C oWa fwYa_157 he24 hv25 dYa_obey_25 ?_
          refine X_iload_n C dYa_obey_28 rfl ?_
          have hq := o_bind hR
          clear hR
          obtain ⟨a27, rfl, hR⟩ := hq
          have hq := o_bind hR
          clear hR
          obtain ⟨u28, hx29, hR⟩ := hq
          obtain ⟨n30, f31, he32, hi33, e34⟩ := ai_e hx29
          refine X_iald C rfl he32 hi33 dYa_obey_29 ?_
          rw [← e34]
          refine X_iconst (v := 4) C dYa_obey_30 rfl ?_
          refine X_irem C dYa_obey_31 (by decide) ?_
          refine X_aload_n C dYa_obey_32 rfl ?_
          have hq := o_bind hR
          clear hR
          obtain ⟨w35, hx39, hR⟩ := hq
          obtain ⟨fs36, he37, hv38⟩ := gq_e hx39
          refine X_get (k := 5) C oWa fwYa_160 he37 hv38 dYa_obey_33 ?_
          refine X_iload_n C dYa_obey_36 rfl ?_
          have hq := o_bind hR
          clear hR
          obtain ⟨a40, rfl, hR⟩ := hq
          have hq := o_bind hR
          clear hR
          obtain ⟨u41, hx42, hR⟩ := hq
          obtain ⟨n43, f44, he45, hi46, e47⟩ := ai_e hx42
          refine X_iald C rfl he45 hi46 dYa_obey_37 ?_
          rw [← e47]
          have hq := o_bind hR
          clear hR
          obtain ⟨a48, rfl, hR⟩ := hq
          have hq := o_if hR
          clear hR
          obtain ⟨k50, hR⟩ := hq
          obtain ⟨fs51, he52⟩ := kc_e k50
          have hq := o_bind hR
          clear hR
          obtain ⟨r49, hr49, hR⟩ := hq
          refine X_callVk (As := [.int ((u15) / ((4 : Int32))), .int ((u28) - (u28) / ((4 : Int32)) * ((4 : Int32))), .int (u41)]) (rest := []) C (Zo_squeeze_c hr49) wYa_228 ⟨by decide, by decide⟩ ⟨Nat.le_refl _, Nat.le_refl _⟩ he52 oZo.2.1 rfl rfl (Nat.le_of_ble_eq_true rfl) dYa_obey_38 ?_
          show X F G B _ 3 (r49.2) _ _ _ _ _ []
          refine X_iinc (v := x2 + 1) (lv' := [(2, .int (x2 + 1)), (0, .ref (a48)), (1, .ref (a1))]) C dYa_obey_41 rfl rfl (by decide) rfl ?_
          refine X_goto (tgt := 2) C dYa_obey_44 (by decide) ?_
          refine X_sub (lv' := [(0, va_rf ((some (a48)))), (1, va_rf ((some (a1)))), (2, .int (x2 + 1))]) [1, 2, 0] rfl ?_
          exact (ih (some (a48)) (some (a1)) (x2 + 1) _ _).2 hR
theorem Ya_obey_c {l : Launch} {G : xG} {B sz : Nat} {n : Nat} {y0 : Option Nat} {y1 : Option Nat} {h : xH} {R : Int32 × xH} (hR : Ya_obey_f n 0 y0 y1 0 h = some R) : xCon l yYa_obey cYa_obey 3 none 2 48 0 0 G B [va_rf (y0), va_rf (y1)] h sz (kP none R.2 sz) := xCon.of (by decide) (by simp [lg_sl, rf_cat, cat_i, cat_r, cat_l]) (fun F e C hr hnm => X_sub (lv' := [(0, va_rf (y0)), (1, va_rf (y1))]) [0, 1] (by simp [lv_args, lv_pick, rf_cat, cat_i, cat_r, cat_l]) ((Ya_obey_x C hr n y0 y1 0 h R).1 hR))
def Zo_isSet_f (n : Nat) (x0 : Int32) (x1 : Int32) (h : xH) : Option (Int32 × xH) := (if x1 ≤ 0 then some ((0 : Int32), h) else (if (4 : Int32) ≤ x1 then some ((0 : Int32), h) else (if ((x0) >>> (((x1) - ((1 : Int32))) &&& 31)) &&& ((1 : Int32)) = (1 : Int32) then some ((1 : Int32), h) else some ((0 : Int32), h))))
set_option maxRecDepth 100000 in
set_option maxHeartbeats 8000000 in
theorem Zo_isSet_x {F : xF} {G : xG} {B sz : Nat} (C : xC F G B cZo_isSet RZo 2 0 0 0 0) (hr : (xFM F).sig.returnType = (some .boolean)) {n : Nat} {x0 : Int32} {x1 : Int32} {h : xH} {R : Int32 × xH} (hR : Zo_isSet_f n x0 x1 h = some R) : X F G B (xZ F G B (kP (some (.int R.1)) R.2 sz) 0 0) 2 h sz 0 0 0 [(0, .int (x0)), (1, .int (x1))] [] := by
  unfold Zo_isSet_f at hR
  refine X_iload_n C dZo_isSet_0 rfl ?_
  refine X_if_le (tgt := 24) C dZo_isSet_1 (by decide) (fun c1 => ?_) (fun c1 => ?_)
  · rw [if_pos c1] at hR
    refine X_iconst (v := 0) C dZo_isSet_24 rfl ?_
    rw [← Option.some.inj hR]
    exact X_zret C hr rfl (Nat.le_refl _) (Nat.le_refl _) dZo_isSet_25 ⟨rfl, rfl, rfl⟩
  · rw [if_neg c1] at hR
    refine X_iload_n C dZo_isSet_4 rfl ?_
    refine X_iconst (v := 4) C dZo_isSet_5 rfl ?_
    refine X_icmp_ge (tgt := 24) C dZo_isSet_6 (by decide) (fun c2 => ?_) (fun c2 => ?_)
    · rw [if_pos c2] at hR
      refine X_iconst (v := 0) C dZo_isSet_24 rfl ?_
      rw [← Option.some.inj hR]
      exact X_zret C hr rfl (Nat.le_refl _) (Nat.le_refl _) dZo_isSet_25 ⟨rfl, rfl, rfl⟩
    · rw [if_neg c2] at hR
      refine X_iload_n C dZo_isSet_9 rfl ?_
      refine X_iload_n C dZo_isSet_10 rfl ?_
      refine X_iconst (v := 1) C dZo_isSet_11 rfl ?_
      refine X_isub C dZo_isSet_12 ?_
      refine X_ishr C dZo_isSet_13 ?_
      refine X_iconst (v := 1) C dZo_isSet_14 rfl ?_
      refine X_iand C dZo_isSet_15 ?_
      refine X_iconst (v := 1) C dZo_isSet_16 rfl ?_
      refine X_icmp_ne (tgt := 24) C dZo_isSet_17 (by decide) (fun c3 => ?_) (fun c3 => ?_)
      · rw [if_neg c3] at hR
        refine X_iconst (v := 0) C dZo_isSet_24 rfl ?_
        rw [← Option.some.inj hR]
        exact X_zret C hr rfl (Nat.le_refl _) (Nat.le_refl _) dZo_isSet_25 ⟨rfl, rfl, rfl⟩
      · rw [if_pos c3] at hR
        refine X_iconst (v := 1) C dZo_isSet_20 rfl ?_
        refine X_goto (tgt := 25) C dZo_isSet_21 (by decide) ?_
        rw [← Option.some.inj hR]
        exact X_zret C hr rfl (Nat.le_refl _) (Nat.le_refl _) dZo_isSet_25 ⟨rfl, rfl, rfl⟩
theorem Zo_isSet_c {l : Launch} {G : xG} {B sz : Nat} {n : Nat} {x0 : Int32} {x1 : Int32} {h : xH} {R : Int32 × xH} (hR : Zo_isSet_f n x0 x1 h = some R) : xCon l yZo_isSet cZo_isSet 2 (some .boolean) 0 0 0 0 G B [.int (x0), .int (x1)] h sz (kP (some (.int R.1)) R.2 sz) := xCon.of (by decide) (by exact Nat.le_of_ble_eq_true rfl) (fun F e C hr hnm => X_sub (lv' := [(0, .int (x0)), (1, .int (x1))]) [0, 1] rfl (Zo_isSet_x C hr hR))
def Zo_reset_t0 (f : Nat → Int32 → Int32 → Int32 → xH → Option (Int32 × xH)) (n : Nat) (o : Nat) (x1 : Int32) (x2 : Int32) (x3 : Int32) (h : xH) : Option (Int32 × xH) := f 2 (x1) ((1 : Int32)) 0 h
def Zo_reset_t2 (f : Nat → Int32 → Int32 → Int32 → xH → Option (Int32 × xH)) (n : Nat) (o : Nat) (x1 : Int32) (x2 : Int32) (x3 : Int32) (h : xH) : Option (Int32 × xH) := (if (4 : Int32) ≤ x2 then some (0, h) else obd (Zo_isSet_f n (x1) (x2) h) (fun r2 => (if r2.1 = 0 then f 2 (x1) (x2 + 1) 0 r2.2 else f 20 (x1) (x2) ((0 : Int32)) r2.2)))
def Zo_reset_t20 (f : Nat → Int32 → Int32 → Int32 → xH → Option (Int32 × xH)) (n : Nat) (o : Nat) (x1 : Int32) (x2 : Int32) (x3 : Int32) (h : xH) : Option (Int32 × xH) := obd (gi h (o) 1 0) (fun u4 => (if u4 ≤ x3 then f 2 (x1) (x2 + 1) 0 h else obd (Zo_isSet_f n (x1) (x3) h) (fun r10 => obd (gq r10.2 (o) 1 1) (fun w11 => obd (gi r10.2 (o) 1 0) (fun u16 => (if r10.1 = 0 then (if kc r10.2 (o) 1 = true then obd (Zo_at_f n (o) ((0 : Int32)) (x3) r10.2) (fun r22 => obd w11 (fun a23 => obd (pa r22.2 (a23) 0 (((x2) * (u16)) + (x3)) (r22.1)) (fun h24 => obd (gq h24 (o) 1 1) (fun w31 => obd (gi h24 (o) 1 0) (fun u36 => (if r10.1 = 0 then (if kc h24 (o) 1 = true then obd (Zo_at_f n (o) (x3) ((0 : Int32)) h24) (fun r42 => obd w31 (fun a43 => obd (pa r42.2 (a43) 0 (((x3) * (u36)) + (x2)) (r42.1)) (fun h44 => f 20 (x1) (x2) (x3 + 1) h44))) else none) else obd w31 (fun a54 => obd (pa h24 (a54) 0 (((x3) * (u36)) + (x2)) ((1 : Int32))) (fun h55 => f 20 (x1) (x2) (x3 + 1) h55)))))))) else none) else obd w11 (fun a65 => obd (pa r10.2 (a65) 0 (((x2) * (u16)) + (x3)) ((1 : Int32))) (fun h66 => obd (gq h66 (o) 1 1) (fun w73 => obd (gi h66 (o) 1 0) (fun u78 => (if r10.1 = 0 then (if kc h66 (o) 1 = true then obd (Zo_at_f n (o) (x3) ((0 : Int32)) h66) (fun r84 => obd w73 (fun a85 => obd (pa r84.2 (a85) 0 (((x3) * (u78)) + (x2)) (r84.1)) (fun h86 => f 20 (x1) (x2) (x3 + 1) h86))) else none) else obd w73 (fun a96 => obd (pa h66 (a96) 0 (((x3) * (u78)) + (x2)) ((1 : Int32))) (fun h97 => f 20 (x1) (x2) (x3 + 1) h97)))))))))))))
def Zo_reset_f : Nat → Nat → Nat → Int32 → Int32 → Int32 → xH → Option (Int32 × xH)
  | 0 => fun _ _ _ _ _ _ => none
  | n + 1 => fun p o x1 x2 x3 h => if p = 0 then Zo_reset_t0 (fun p x1 x2 x3 h => Zo_reset_f n p o x1 x2 x3 h) n o x1 x2 x3 h else if p = 2 then Zo_reset_t2 (fun p x1 x2 x3 h => Zo_reset_f n p o x1 x2 x3 h) n o x1 x2 x3 h else if p = 20 then Zo_reset_t20 (fun p x1 x2 x3 h => Zo_reset_f n p o x1 x2 x3 h) n o x1 x2 x3 h else none
theorem Zo_reset_e0 (n : Nat) (o : Nat) (x1 : Int32) (x2 : Int32) (x3 : Int32) (h : xH) : Zo_reset_f (n + 1) 0 o x1 x2 x3 h = Zo_reset_t0 (fun p x1 x2 x3 h => Zo_reset_f n p o x1 x2 x3 h) n o x1 x2 x3 h := by
  show (if 0 = 0 then Zo_reset_t0 (fun p x1 x2 x3 h => Zo_reset_f n p o x1 x2 x3 h) n o x1 x2 x3 h else if 0 = 2 then Zo_reset_t2 (fun p x1 x2 x3 h => Zo_reset_f n p o x1 x2 x3 h) n o x1 x2 x3 h else if 0 = 20 then Zo_reset_t20 (fun p x1 x2 x3 h => Zo_reset_f n p o x1 x2 x3 h) n o x1 x2 x3 h else none) = _
  rw [if_pos rfl]
theorem Zo_reset_e2 (n : Nat) (o : Nat) (x1 : Int32) (x2 : Int32) (x3 : Int32) (h : xH) : Zo_reset_f (n + 1) 2 o x1 x2 x3 h = Zo_reset_t2 (fun p x1 x2 x3 h => Zo_reset_f n p o x1 x2 x3 h) n o x1 x2 x3 h := by
  show (if 2 = 0 then Zo_reset_t0 (fun p x1 x2 x3 h => Zo_reset_f n p o x1 x2 x3 h) n o x1 x2 x3 h else if 2 = 2 then Zo_reset_t2 (fun p x1 x2 x3 h => Zo_reset_f n p o x1 x2 x3 h) n o x1 x2 x3 h else if 2 = 20 then Zo_reset_t20 (fun p x1 x2 x3 h => Zo_reset_f n p o x1 x2 x3 h) n o x1 x2 x3 h else none) = _
  rw [if_neg (by decide), if_pos rfl]
theorem Zo_reset_e20 (n : Nat) (o : Nat) (x1 : Int32) (x2 : Int32) (x3 : Int32) (h : xH) : Zo_reset_f (n + 1) 20 o x1 x2 x3 h = Zo_reset_t20 (fun p x1 x2 x3 h => Zo_reset_f n p o x1 x2 x3 h) n o x1 x2 x3 h := by
  show (if 20 = 0 then Zo_reset_t0 (fun p x1 x2 x3 h => Zo_reset_f n p o x1 x2 x3 h) n o x1 x2 x3 h else if 20 = 2 then Zo_reset_t2 (fun p x1 x2 x3 h => Zo_reset_f n p o x1 x2 x3 h) n o x1 x2 x3 h else if 20 = 20 then Zo_reset_t20 (fun p x1 x2 x3 h => Zo_reset_f n p o x1 x2 x3 h) n o x1 x2 x3 h else none) = _
  rw [if_neg (by decide), if_neg (by decide), if_pos rfl]
set_option maxRecDepth 100000 in
set_option maxHeartbeats 8000000 in
theorem Zo_reset_x {F : xF} {G : xG} {B sz : Nat} {o : Nat} (C : xC F G B cZo_reset RZo 5 1 22 0 0) (hr : (xFM F).sig.returnType = none) : ∀ (n : Nat) (x1 : Int32) (x2 : Int32) (x3 : Int32) (h : xH) (R : Int32 × xH), (Zo_reset_f n 0 o x1 x2 x3 h = some R → X F G B (xZ F G B (kP none R.2 sz) 0 0) 5 h sz 0 0 0 [(0, .ref (o)), (1, .int (x1))] []) ∧ (Zo_reset_f n 2 o x1 x2 x3 h = some R → X F G B (xZ F G B (kP none R.2 sz) 0 0) 5 h sz 0 0 2 [(0, .ref (o)), (1, .int (x1)), (2, .int (x2))] []) ∧ (Zo_reset_f n 20 o x1 x2 x3 h = some R → X F G B (xZ F G B (kP none R.2 sz) 0 0) 5 h sz 0 0 20 [(0, .ref (o)), (1, .int (x1)), (2, .int (x2)), (3, .int (x3))] []) := by
  intro n
  induction n with
  | zero => exact fun _ _ _ _ _ => ⟨(fun hR => nomatch (show (none : Option _) = some _ from hR)), (fun hR => nomatch (show (none : Option _) = some _ from hR)), (fun hR => nomatch (show (none : Option _) = some _ from hR))⟩
  | succ n ih =>
    intro x1 x2 x3 h R
    refine ⟨fun hR => ?_, fun hR => ?_, fun hR => ?_⟩
    · rw [Zo_reset_e0] at hR
      unfold Zo_reset_t0 at hR
      refine X_iconst (v := 1) C dZo_reset_0 rfl ?_
      refine X_istore_n (lv' := [(2, .int ((1 : Int32))), (0, .ref (o)), (1, .int (x1))]) C dZo_reset_1 (by decide) rfl ?_
      refine X_sub (lv' := [(0, .ref (o)), (1, .int (x1)), (2, .int ((1 : Int32)))]) [1, 2, 0] rfl ?_
      exact (ih (x1) ((1 : Int32)) 0 _ _).2.1 hR
    · rw [Zo_reset_e2] at hR
      unfold Zo_reset_t2 at hR
      refine X_iload_n C dZo_reset_2 rfl ?_
      refine X_iconst (v := 4) C dZo_reset_3 rfl ?_
      refine X_icmp_ge (tgt := 103) C dZo_reset_4 (by decide) (fun c1 => ?_) (fun c1 => ?_)
      · rw [if_pos c1] at hR
        rw [← Option.some.inj hR]
        exact X_vret C hr (Nat.le_refl _) (Nat.le_refl _) dZo_reset_103 ⟨rfl, rfl, rfl⟩
      · rw [if_neg c1] at hR
        refine X_iload_n C dZo_reset_7 rfl ?_
        refine X_iload_n C dZo_reset_8 rfl ?_
        have hq := o_bind hR
        clear hR
        obtain ⟨r2, hr2, hR⟩ := hq
        refine X_callSk (As := [.int (x1), .int (x2)]) (rest := []) C (Zo_isSet_c hr2) wZo_52 ⟨by decide, by decide⟩ ⟨Nat.le_refl _, Nat.le_refl _⟩ rfl rfl (Nat.le_of_ble_eq_true rfl) dZo_reset_9 ?_
        show X F G B _ 5 (r2.2) _ _ _ _ _ [.int (r2.1)]
        refine X_if_ne (tgt := 18) C dZo_reset_12 (by decide) (fun c3 => ?_) (fun c3 => ?_)
        · rw [if_neg c3] at hR
          refine X_iconst (v := 0) C dZo_reset_18 rfl ?_
          refine X_istore_n (lv' := [(3, .int ((0 : Int32))), (0, .ref (o)), (1, .int (x1)), (2, .int (x2))]) C dZo_reset_19 (by decide) rfl ?_
          refine X_sub (lv' := [(0, .ref (o)), (1, .int (x1)), (2, .int (x2)), (3, .int ((0 : Int32)))]) [1, 2, 3, 0] rfl ?_
          exact (ih (x1) (x2) ((0 : Int32)) _ _).2.2 hR
        · rw [if_pos c3] at hR
          refine X_goto (tgt := 97) C dZo_reset_15 (by decide) ?_
          refine X_iinc (v := x2 + 1) (lv' := [(2, .int (x2 + 1)), (0, .ref (o)), (1, .int (x1))]) C dZo_reset_97 rfl rfl (by decide) rfl ?_
          refine X_goto (tgt := 2) C dZo_reset_100 (by decide) ?_
          refine X_sub (lv' := [(0, .ref (o)), (1, .int (x1)), (2, .int (x2 + 1))]) [1, 2, 0] rfl ?_
          exact (ih (x1) (x2 + 1) 0 _ _).2.1 hR
    · rw [Zo_reset_e20] at hR
      unfold Zo_reset_t20 at hR
      refine X_iload_n C dZo_reset_20 rfl ?_
      refine X_aload_n C dZo_reset_21 rfl ?_
      have hq := o_bind hR
      clear hR
      obtain ⟨u4, hx8, hR⟩ := hq
      obtain ⟨fs5, he6, hv7⟩ := gi_e hx8
      refine X_get (k := 0) C oZo fwZo_9 he6 hv7 dZo_reset_22 ?_
      refine X_icmp_ge (tgt := 97) C dZo_reset_25 (by decide) (fun c9 => ?_) (fun c9 => ?_)
      · rw [if_pos c9] at hR
        refine X_iinc (v := x2 + 1) (lv' := [(2, .int (x2 + 1)), (0, .ref (o)), (1, .int (x1)), (3, .int (x3))]) C dZo_reset_97 rfl rfl (by decide) rfl ?_
        refine X_goto (tgt := 2) C dZo_reset_100 (by decide) ?_
        refine X_sub (lv' := [(0, .ref (o)), (1, .int (x1)), (2, .int (x2 + 1))]) [1, 2, 0] rfl ?_
        exact (ih (x1) (x2 + 1) 0 _ _).2.1 hR
      · rw [if_neg c9] at hR
        refine X_iload_n C dZo_reset_28 rfl ?_
        refine X_iload_n C dZo_reset_29 rfl ?_
        have hq := o_bind hR
        clear hR
        obtain ⟨r10, hr10, hR⟩ := hq
        refine X_callSk (As := [.int (x1), .int (x3)]) (rest := []) C (Zo_isSet_c hr10) wZo_52 ⟨by decide, by decide⟩ ⟨Nat.le_refl _, Nat.le_refl _⟩ rfl rfl (Nat.le_of_ble_eq_true rfl) dZo_reset_30 ?_
        show X F G B _ 5 (r10.2) _ _ _ _ _ [.int (r10.1)]
        refine X_istore (lv' := [(4, .int (r10.1)), (0, .ref (o)), (1, .int (x1)), (2, .int (x2)), (3, .int (x3))]) C dZo_reset_33 (by decide) rfl ?_
        refine X_aload_n C dZo_reset_35 rfl ?_
        have hq := o_bind hR
        clear hR
        obtain ⟨w11, hx15, hR⟩ := hq
        obtain ⟨fs12, he13, hv14⟩ := gq_e hx15
        refine X_get (k := 1) C oZo fwZo_15 he13 hv14 dZo_reset_36 ?_
        refine X_iload_n C dZo_reset_39 rfl ?_
        refine X_aload_n C dZo_reset_40 rfl ?_
        have hq := o_bind hR
        clear hR
        obtain ⟨u16, hx20, hR⟩ := hq
        obtain ⟨fs17, he18, hv19⟩ := gi_e hx20
        refine X_get (k := 0) C oZo fwZo_9 he18 hv19 dZo_reset_41 ?_
        refine X_imul C dZo_reset_44 ?_
        refine X_iload_n C dZo_reset_45 rfl ?_
        refine X_iadd C dZo_reset_46 ?_
        refine X_iload C dZo_reset_47 rfl ?_
        refine X_if_eq (tgt := 56) C dZo_reset_49 (by decide) (fun c21 => ?_) (fun c21 => ?_)
        · rw [if_pos c21] at hR
          refine X_aload_n C dZo_reset_56 rfl ?_
          refine X_iconst (v := 0) C dZo_reset_57 rfl ?_
          refine X_iload_n C dZo_reset_58 rfl ?_
          have hq := o_if hR
          clear hR
          obtain ⟨k62, hR⟩ := hq
          obtain ⟨fs63, he64⟩ := kc_e k62
          have hq := o_bind hR
          clear hR
          obtain ⟨r22, hr22, hR⟩ := hq
          refine X_callVk (As := [.int ((0 : Int32)), .int (x3)]) (rest := [.int (((x2) * (u16)) + (x3)), va_rf (w11)]) C (Zo_at_c hr22) wZo_36 ⟨by decide, by decide⟩ ⟨Nat.le_refl _, Nat.le_refl _⟩ he64 oZo.2.1 rfl rfl (by simp [rf_cat, cat_i, cat_r, cat_l]) dZo_reset_59 ?_
          show X F G B _ 5 (r22.2) _ _ _ _ _ [.int (r22.1), .int (((x2) * (u16)) + (x3)), va_rf (w11)]
          have hq := o_bind hR
          clear hR
          obtain ⟨a23, rfl, hR⟩ := hq
          have hq := o_bind hR
          clear hR
          obtain ⟨h24, hh25, hR⟩ := hq
          obtain ⟨n26, f27, he28, hi29, e30⟩ := pa_e hh25
          refine X_iast C rfl he28 hi29 dZo_reset_62 ?_
          rw [← e30]
          refine X_aload_n C dZo_reset_63 rfl ?_
          have hq := o_bind hR
          clear hR
          obtain ⟨w31, hx35, hR⟩ := hq
          obtain ⟨fs32, he33, hv34⟩ := gq_e hx35
          refine X_get (k := 1) C oZo fwZo_15 he33 hv34 dZo_reset_64 ?_
          refine X_iload_n C dZo_reset_67 rfl ?_
          refine X_aload_n C dZo_reset_68 rfl ?_
          have hq := o_bind hR
          clear hR
          obtain ⟨u36, hx40, hR⟩ := hq
          obtain ⟨fs37, he38, hv39⟩ := gi_e hx40
          refine X_get (k := 0) C oZo fwZo_9 he38 hv39 dZo_reset_69 ?_
          refine X_imul C dZo_reset_72 ?_
          refine X_iload_n C dZo_reset_73 rfl ?_
          refine X_iadd C dZo_reset_74 ?_
          refine X_iload C dZo_reset_75 rfl ?_
          refine X_if_eq (tgt := 84) C dZo_reset_77 (by decide) (fun c41 => ?_) (fun c41 => ?_)
          · rw [if_pos c41] at hR
            refine X_aload_n C dZo_reset_84 rfl ?_
            refine X_iload_n C dZo_reset_85 rfl ?_
            refine X_iconst (v := 0) C dZo_reset_86 rfl ?_
            have hq := o_if hR
            clear hR
            obtain ⟨k51, hR⟩ := hq
            obtain ⟨fs52, he53⟩ := kc_e k51
            have hq := o_bind hR
            clear hR
            obtain ⟨r42, hr42, hR⟩ := hq
            refine X_callVk (As := [.int (x3), .int ((0 : Int32))]) (rest := [.int (((x3) * (u36)) + (x2)), va_rf (w31)]) C (Zo_at_c hr42) wZo_36 ⟨by decide, by decide⟩ ⟨Nat.le_refl _, Nat.le_refl _⟩ he53 oZo.2.1 rfl rfl (by simp [rf_cat, cat_i, cat_r, cat_l]) dZo_reset_87 ?_
            show X F G B _ 5 (r42.2) _ _ _ _ _ [.int (r42.1), .int (((x3) * (u36)) + (x2)), va_rf (w31)]
            have hq := o_bind hR
            clear hR
            obtain ⟨a43, rfl, hR⟩ := hq
            have hq := o_bind hR
            clear hR
            obtain ⟨h44, hh45, hR⟩ := hq
            obtain ⟨n46, f47, he48, hi49, e50⟩ := pa_e hh45
            refine X_iast C rfl he48 hi49 dZo_reset_90 ?_
            rw [← e50]
            refine X_iinc (v := x3 + 1) (lv' := [(3, .int (x3 + 1)), (4, .int (r10.1)), (0, .ref (o)), (1, .int (x1)), (2, .int (x2))]) C dZo_reset_91 rfl rfl (by decide) rfl ?_
            refine X_goto (tgt := 20) C dZo_reset_94 (by decide) ?_
            refine X_sub (lv' := [(0, .ref (o)), (1, .int (x1)), (2, .int (x2)), (3, .int (x3 + 1))]) [2, 3, 4, 0] rfl ?_
            exact (ih (x1) (x2) (x3 + 1) _ _).2.2 hR
          · rw [if_neg c41] at hR
            refine X_iconst (v := 1) C dZo_reset_80 rfl ?_
            refine X_goto (tgt := 90) C dZo_reset_81 (by decide) ?_
            have hq := o_bind hR
            clear hR
            obtain ⟨a54, rfl, hR⟩ := hq
            have hq := o_bind hR
            clear hR
            obtain ⟨h55, hh56, hR⟩ := hq
            obtain ⟨n57, f58, he59, hi60, e61⟩ := pa_e hh56
            refine X_iast C rfl he59 hi60 dZo_reset_90 ?_
            rw [← e61]
            refine X_iinc (v := x3 + 1) (lv' := [(3, .int (x3 + 1)), (4, .int (r10.1)), (0, .ref (o)), (1, .int (x1)), (2, .int (x2))]) C dZo_reset_91 rfl rfl (by decide) rfl ?_
            refine X_goto (tgt := 20) C dZo_reset_94 (by decide) ?_
            refine X_sub (lv' := [(0, .ref (o)), (1, .int (x1)), (2, .int (x2)), (3, .int (x3 + 1))]) [2, 3, 4, 0] rfl ?_
            exact (ih (x1) (x2) (x3 + 1) _ _).2.2 hR
        · rw [if_neg c21] at hR
          refine X_iconst (v := 1) C dZo_reset_52 rfl ?_
          refine X_goto (tgt := 62) C dZo_reset_53 (by decide) ?_
          have hq := o_bind hR
          clear hR
          obtain ⟨a65, rfl, hR⟩ := hq
          have hq := o_bind hR
          clear hR
          obtain ⟨h66, hh67, hR⟩ := hq
          obtain ⟨n68, f69, he70, hi71, e72⟩ := pa_e hh67
          refine X_iast C rfl he70 hi71 dZo_reset_62 ?_
          rw [← e72]
          refine X_aload_n C dZo_reset_63 rfl ?_
          have hq := o_bind hR
          clear hR
          obtain ⟨w73, hx77, hR⟩ := hq
          obtain ⟨fs74, he75, hv76⟩ := gq_e hx77
          refine X_get (k := 1) C oZo fwZo_15 he75 hv76 dZo_reset_64 ?_
          refine X_iload_n C dZo_reset_67 rfl ?_
          refine X_aload_n C dZo_reset_68 rfl ?_
          have hq := o_bind hR
          clear hR
          obtain ⟨u78, hx82, hR⟩ := hq
          obtain ⟨fs79, he80, hv81⟩ := gi_e hx82
          refine X_get (k := 0) C oZo fwZo_9 he80 hv81 dZo_reset_69 ?_
          refine X_imul C dZo_reset_72 ?_
          refine X_iload_n C dZo_reset_73 rfl ?_
          refine X_iadd C dZo_reset_74 ?_
          refine X_iload C dZo_reset_75 rfl ?_
          refine X_if_eq (tgt := 84) C dZo_reset_77 (by decide) (fun c83 => ?_) (fun c83 => ?_)
          · rw [if_pos c83] at hR
            refine X_aload_n C dZo_reset_84 rfl ?_
            refine X_iload_n C dZo_reset_85 rfl ?_
            refine X_iconst (v := 0) C dZo_reset_86 rfl ?_
            have hq := o_if hR
            clear hR
            obtain ⟨k93, hR⟩ := hq
            obtain ⟨fs94, he95⟩ := kc_e k93
            have hq := o_bind hR
            clear hR
            obtain ⟨r84, hr84, hR⟩ := hq
            refine X_callVk (As := [.int (x3), .int ((0 : Int32))]) (rest := [.int (((x3) * (u78)) + (x2)), va_rf (w73)]) C (Zo_at_c hr84) wZo_36 ⟨by decide, by decide⟩ ⟨Nat.le_refl _, Nat.le_refl _⟩ he95 oZo.2.1 rfl rfl (by simp [rf_cat, cat_i, cat_r, cat_l]) dZo_reset_87 ?_
            show X F G B _ 5 (r84.2) _ _ _ _ _ [.int (r84.1), .int (((x3) * (u78)) + (x2)), va_rf (w73)]
            have hq := o_bind hR
            clear hR
            obtain ⟨a85, rfl, hR⟩ := hq
            have hq := o_bind hR
            clear hR
            obtain ⟨h86, hh87, hR⟩ := hq
            obtain ⟨n88, f89, he90, hi91, e92⟩ := pa_e hh87
            refine X_iast C rfl he90 hi91 dZo_reset_90 ?_
            rw [← e92]
            refine X_iinc (v := x3 + 1) (lv' := [(3, .int (x3 + 1)), (4, .int (r10.1)), (0, .ref (o)), (1, .int (x1)), (2, .int (x2))]) C dZo_reset_91 rfl rfl (by decide) rfl ?_
            refine X_goto (tgt := 20) C dZo_reset_94 (by decide) ?_
            refine X_sub (lv' := [(0, .ref (o)), (1, .int (x1)), (2, .int (x2)), (3, .int (x3 + 1))]) [2, 3, 4, 0] rfl ?_
            exact (ih (x1) (x2) (x3 + 1) _ _).2.2 hR
          · rw [if_neg c83] at hR
            refine X_iconst (v := 1) C dZo_reset_80 rfl ?_
            refine X_goto (tgt := 90) C dZo_reset_81 (by decide) ?_
            have hq := o_bind hR
            clear hR
            obtain ⟨a96, rfl, hR⟩ := hq
            have hq := o_bind hR
            clear hR
            obtain ⟨h97, hh98, hR⟩ := hq
            obtain ⟨n99, f100, he101, hi102, e103⟩ := pa_e hh98
            refine X_iast C rfl he101 hi102 dZo_reset_90 ?_
            rw [← e103]
            refine X_iinc (v := x3 + 1) (lv' := [(3, .int (x3 + 1)), (4, .int (r10.1)), (0, .ref (o)), (1, .int (x1)), (2, .int (x2))]) C dZo_reset_91 rfl rfl (by decide) rfl ?_
            refine X_goto (tgt := 20) C dZo_reset_94 (by decide) ?_
            refine X_sub (lv' := [(0, .ref (o)), (1, .int (x1)), (2, .int (x2)), (3, .int (x3 + 1))]) [2, 3, 4, 0] rfl ?_
            exact (ih (x1) (x2) (x3 + 1) _ _).2.2 hR
theorem Zo_reset_c {l : Launch} {G : xG} {B sz : Nat} {o : Nat} {n : Nat} {x1 : Int32} {h : xH} {R : Int32 × xH} (hR : Zo_reset_f n 0 o x1 0 0 h = some R) : xCon l yZo_reset cZo_reset 5 none 1 22 0 0 G B [.ref (o), .int (x1)] h sz (kP none R.2 sz) := xCon.of (by decide) (by exact Nat.le_of_ble_eq_true rfl) (fun F e C hr hnm => X_sub (lv' := [(0, .ref (o)), (1, .int (x1))]) [0, 1] rfl ((Zo_reset_x C hr n x1 0 0 h R).1 hR))
def Ya_follow_f (n : Nat) (o : Nat) (y1 : Option Nat) (y2 : Option Nat) (y3 : Option Nat) (h : xH) : Option (Int32 × xH) := obd (Ya_obey_f n 0 (y1) (y2) 0 h) (fun r1 => obd y2 (fun a2 => obd (gi r1.2 (a2) 7 3) (fun u3 => oel (y3) (obd y1 (fun a10 => (if kc r1.2 (a10) 1 = true then obd (Zo_reset_f n 0 (a10) (u3) 0 0 r1.2) (fun r11 => (if kc r11.2 (o) 3 = true then obd (Ya_confine_f n 0 (o) (some (a10)) 0 none 0 r11.2) (fun r12 => some (0, r12.2)) else none)) else none))) (fun a8 => obd (Ya_obey_f n 0 (y1) (some (a8)) 0 r1.2) (fun r19 => obd (gi r19.2 (a8) 7 3) (fun u20 => obd y1 (fun a25 => (if kc r19.2 (a25) 1 = true then obd (Zo_reset_f n 0 (a25) ((u3) ||| (u20)) 0 0 r19.2) (fun r26 => (if kc r26.2 (o) 3 = true then obd (Ya_confine_f n 0 (o) (some (a25)) 0 none 0 r26.2) (fun r27 => some (0, r27.2)) else none)) else none))))))))
set_option maxRecDepth 100000 in
set_option maxHeartbeats 8000000 in
theorem Ya_follow_x {F : xF} {G : xG} {B sz : Nat} {o : Nat} (C : xC F G B cYa_follow RYa 5 3 72 0 0) (hr : (xFM F).sig.returnType = none) {n : Nat} {y1 : Option Nat} {y2 : Option Nat} {y3 : Option Nat} {h : xH} {R : Int32 × xH} (hR : Ya_follow_f n o y1 y2 y3 h = some R) : X F G B (xZ F G B (kP none R.2 sz) 0 0) 5 h sz 0 0 0 [(0, .ref (o)), (1, va_rf (y1)), (2, va_rf (y2)), (3, va_rf (y3))] [] := by
  unfold Ya_follow_f at hR
  refine X_aload_nq C dYa_follow_0 rfl ?_
  refine X_aload_nq C dYa_follow_1 rfl ?_
  have hq := o_bind hR
  clear hR
  obtain ⟨r1, hr1, hR⟩ := hq
  refine X_callSk (As := [va_rf (y1), va_rf (y2)]) (rest := []) C (Ya_obey_c hr1) wYa_217 ⟨by decide, by decide⟩ ⟨Nat.le_refl _, Nat.le_refl _⟩ rfl rfl (Nat.le_of_ble_eq_true rfl) dYa_follow_2 ?_
  show X F G B _ 5 (r1.2) _ _ _ _ _ []
  refine X_aload_nq C dYa_follow_5 rfl ?_
  have hq := o_bind hR
  clear hR
  obtain ⟨a2, rfl, hR⟩ := hq
  have hq := o_bind hR
  clear hR
  obtain ⟨u3, hx7, hR⟩ := hq
  obtain ⟨fs4, he5, hv6⟩ := gi_e hx7
  refine X_get (k := 3) C oWa fwYa_221 he5 hv6 dYa_follow_6 ?_
  refine X_istore (lv' := [(4, .int (u3)), (0, .ref (o)), (1, va_rf (y1)), (2, .ref (a2)), (3, va_rf (y3))]) C dYa_follow_9 (by decide) (by simp [rf_cat, cat_i, cat_r, cat_l, rf_n, rf_s] <;> decide) ?_
  refine X_aload_nq C dYa_follow_11 rfl ?_
  refine X_ifnullq (tgt := 29) C dYa_follow_12 (by decide) (fun e9 => ?_) (fun a8 e9 => ?_)
  · subst e9
    rw [oel_n] at hR
    refine X_aload_nq C dYa_follow_29 rfl ?_
    refine X_iload C dYa_follow_30 rfl ?_
    have hq := o_bind hR
    clear hR
    obtain ⟨a10, rfl, hR⟩ := hq
    have hq := o_if hR
    clear hR
    obtain ⟨k16, hR⟩ := hq
    obtain ⟨fs17, he18⟩ := kc_e k16
    have hq := o_bind hR
    clear hR
    obtain ⟨r11, hr11, hR⟩ := hq
    refine X_callVk (As := [.int (u3)]) (rest := []) C (Zo_reset_c hr11) wYa_224 ⟨by decide, by decide⟩ ⟨Nat.le_refl _, Nat.le_refl _⟩ he18 oZo.2.1 rfl rfl (Nat.le_of_ble_eq_true rfl) dYa_follow_32 ?_
    show X F G B _ 5 (r11.2) _ _ _ _ _ []
    refine X_aload_n C dYa_follow_35 rfl ?_
    refine X_aload_n C dYa_follow_36 rfl ?_
    have hq := o_if hR
    clear hR
    obtain ⟨k13, hR⟩ := hq
    obtain ⟨fs14, he15⟩ := kc_e k13
    have hq := o_bind hR
    clear hR
    obtain ⟨r12, hr12, hR⟩ := hq
    refine X_callVk (As := [.ref (a10)]) (rest := []) C (Ya_confine_c hr12) wYa_90 ⟨by decide, by decide⟩ ⟨Nat.le_refl _, Nat.le_refl _⟩ he15 oYa.2.1 rfl rfl (Nat.le_of_ble_eq_true rfl) dYa_follow_37 ?_
    show X F G B _ 5 (r12.2) _ _ _ _ _ []
    rw [← Option.some.inj hR]
    exact X_vret C hr (Nat.le_refl _) (Nat.le_refl _) dYa_follow_40 ⟨rfl, rfl, rfl⟩
  · subst e9
    rw [oel_s] at hR
    refine X_aload_nq C dYa_follow_15 rfl ?_
    refine X_aload_n C dYa_follow_16 rfl ?_
    have hq := o_bind hR
    clear hR
    obtain ⟨r19, hr19, hR⟩ := hq
    refine X_callSk (As := [va_rf (y1), .ref (a8)]) (rest := []) C (Ya_obey_c hr19) wYa_217 ⟨by decide, by decide⟩ ⟨Nat.le_refl _, Nat.le_refl _⟩ rfl rfl (Nat.le_of_ble_eq_true rfl) dYa_follow_17 ?_
    show X F G B _ 5 (r19.2) _ _ _ _ _ []
    refine X_iload C dYa_follow_20 rfl ?_
    refine X_aload_n C dYa_follow_22 rfl ?_
    have hq := o_bind hR
    clear hR
    obtain ⟨u20, hx24, hR⟩ := hq
    obtain ⟨fs21, he22, hv23⟩ := gi_e hx24
    refine X_get (k := 3) C oWa fwYa_221 he22 hv23 dYa_follow_23 ?_
    refine X_ior C dYa_follow_26 ?_
    refine X_istore (lv' := [(4, .int ((u3) ||| (u20))), (0, .ref (o)), (1, va_rf (y1)), (2, .ref (a2)), (3, .ref (a8))]) C dYa_follow_27 (by decide) (by simp [rf_cat, cat_i, cat_r, cat_l, rf_n, rf_s] <;> decide) ?_
    refine X_aload_nq C dYa_follow_29 rfl ?_
    refine X_iload C dYa_follow_30 rfl ?_
    have hq := o_bind hR
    clear hR
    obtain ⟨a25, rfl, hR⟩ := hq
    have hq := o_if hR
    clear hR
    obtain ⟨k31, hR⟩ := hq
    obtain ⟨fs32, he33⟩ := kc_e k31
    have hq := o_bind hR
    clear hR
    obtain ⟨r26, hr26, hR⟩ := hq
    refine X_callVk (As := [.int ((u3) ||| (u20))]) (rest := []) C (Zo_reset_c hr26) wYa_224 ⟨by decide, by decide⟩ ⟨Nat.le_refl _, Nat.le_refl _⟩ he33 oZo.2.1 rfl rfl (Nat.le_of_ble_eq_true rfl) dYa_follow_32 ?_
    show X F G B _ 5 (r26.2) _ _ _ _ _ []
    refine X_aload_n C dYa_follow_35 rfl ?_
    refine X_aload_n C dYa_follow_36 rfl ?_
    have hq := o_if hR
    clear hR
    obtain ⟨k28, hR⟩ := hq
    obtain ⟨fs29, he30⟩ := kc_e k28
    have hq := o_bind hR
    clear hR
    obtain ⟨r27, hr27, hR⟩ := hq
    refine X_callVk (As := [.ref (a25)]) (rest := []) C (Ya_confine_c hr27) wYa_90 ⟨by decide, by decide⟩ ⟨Nat.le_refl _, Nat.le_refl _⟩ he30 oYa.2.1 rfl rfl (Nat.le_of_ble_eq_true rfl) dYa_follow_37 ?_
    show X F G B _ 5 (r27.2) _ _ _ _ _ []
    rw [← Option.some.inj hR]
    exact X_vret C hr (Nat.le_refl _) (Nat.le_refl _) dYa_follow_40 ⟨rfl, rfl, rfl⟩
theorem Ya_follow_c {l : Launch} {G : xG} {B sz : Nat} {o : Nat} {n : Nat} {y1 : Option Nat} {y2 : Option Nat} {y3 : Option Nat} {h : xH} {R : Int32 × xH} (hR : Ya_follow_f n o y1 y2 y3 h = some R) : xCon l yYa_follow cYa_follow 5 none 3 72 0 0 G B [.ref (o), va_rf (y1), va_rf (y2), va_rf (y3)] h sz (kP none R.2 sz) := xCon.of (by decide) (by simp [lg_sl, rf_cat, cat_i, cat_r, cat_l]) (fun F e C hr hnm => X_sub (lv' := [(0, .ref (o)), (1, va_rf (y1)), (2, va_rf (y2)), (3, va_rf (y3))]) [0, 1, 2, 3] (by simp [lv_args, lv_pick, rf_cat, cat_i, cat_r, cat_l]) (Ya_follow_x C hr hR))
def Zo_liesIn_t0 (f : Nat → Option Nat → Int32 → xH → Option (Int32 × xH)) (n : Nat) (o : Nat) (y1 : Option Nat) (x2 : Int32) (h : xH) : Option (Int32 × xH) := obd (gi h (o) 1 2) (fun u1 => (if u1 = 0 then obd y1 (fun a13 => obd (gi h (a13) 1 2) (fun u14 => (if u14 = 0 then obd (gi h (a13) 1 0) (fun u20 => obd (gi h (o) 1 0) (fun u25 => (if u20 = u25 then f 34 (some (a13)) ((0 : Int32)) h else some ((0 : Int32), h)))) else obd (gi h (o) 1 2) (fun u31 => (if zb (u31) = true then some (u31, h) else none))))) else obd (gi h (o) 1 2) (fun u7 => (if zb (u7) = true then some (u7, h) else none))))
def Zo_liesIn_t34 (f : Nat → Option Nat → Int32 → xH → Option (Int32 × xH)) (n : Nat) (o : Nat) (y1 : Option Nat) (x2 : Int32) (h : xH) : Option (Int32 × xH) := obd (gq h (o) 1 1) (fun w37 => obd w37 (fun a42 => obd (al h (a42) 0) (fun u43 => (if u43 ≤ x2 then some ((1 : Int32), h) else obd (gq h (o) 1 1) (fun w49 => obd w49 (fun a54 => obd (ai h (a54) 0 (x2)) (fun u55 => obd y1 (fun a62 => obd (gq h (a62) 1 1) (fun w63 => obd w63 (fun a68 => obd (ai h (a68) 0 (x2)) (fun u69 => (if u55 ≤ u69 then f 34 (some (a62)) (x2 + 1) h else some ((0 : Int32), h)))))))))))))
def Zo_liesIn_f : Nat → Nat → Nat → Option Nat → Int32 → xH → Option (Int32 × xH)
  | 0 => fun _ _ _ _ _ => none
  | n + 1 => fun p o y1 x2 h => if p = 0 then Zo_liesIn_t0 (fun p y1 x2 h => Zo_liesIn_f n p o y1 x2 h) n o y1 x2 h else if p = 34 then Zo_liesIn_t34 (fun p y1 x2 h => Zo_liesIn_f n p o y1 x2 h) n o y1 x2 h else none
theorem Zo_liesIn_e0 (n : Nat) (o : Nat) (y1 : Option Nat) (x2 : Int32) (h : xH) : Zo_liesIn_f (n + 1) 0 o y1 x2 h = Zo_liesIn_t0 (fun p y1 x2 h => Zo_liesIn_f n p o y1 x2 h) n o y1 x2 h := by
  show (if 0 = 0 then Zo_liesIn_t0 (fun p y1 x2 h => Zo_liesIn_f n p o y1 x2 h) n o y1 x2 h else if 0 = 34 then Zo_liesIn_t34 (fun p y1 x2 h => Zo_liesIn_f n p o y1 x2 h) n o y1 x2 h else none) = _
  rw [if_pos rfl]
theorem Zo_liesIn_e34 (n : Nat) (o : Nat) (y1 : Option Nat) (x2 : Int32) (h : xH) : Zo_liesIn_f (n + 1) 34 o y1 x2 h = Zo_liesIn_t34 (fun p y1 x2 h => Zo_liesIn_f n p o y1 x2 h) n o y1 x2 h := by
  show (if 34 = 0 then Zo_liesIn_t0 (fun p y1 x2 h => Zo_liesIn_f n p o y1 x2 h) n o y1 x2 h else if 34 = 34 then Zo_liesIn_t34 (fun p y1 x2 h => Zo_liesIn_f n p o y1 x2 h) n o y1 x2 h else none) = _
  rw [if_neg (by decide), if_pos rfl]
set_option maxRecDepth 100000 in
set_option maxHeartbeats 8000000 in
theorem Zo_liesIn_x {F : xF} {G : xG} {B sz : Nat} {o : Nat} (C : xC F G B cZo_liesIn RZo 3 0 0 0 0) (hr : (xFM F).sig.returnType = (some .boolean)) : ∀ (n : Nat) (y1 : Option Nat) (x2 : Int32) (h : xH) (R : Int32 × xH), (Zo_liesIn_f n 0 o y1 x2 h = some R → X F G B (xZ F G B (kP (some (.int R.1)) R.2 sz) 0 0) 3 h sz 0 0 0 [(0, .ref (o)), (1, va_rf (y1))] []) ∧ (Zo_liesIn_f n 34 o y1 x2 h = some R → X F G B (xZ F G B (kP (some (.int R.1)) R.2 sz) 0 0) 3 h sz 0 0 34 [(0, .ref (o)), (1, va_rf (y1)), (2, .int (x2))] []) := by
  intro n
  induction n with
  | zero => exact fun _ _ _ _ => ⟨(fun hR => nomatch (show (none : Option _) = some _ from hR)), (fun hR => nomatch (show (none : Option _) = some _ from hR))⟩
  | succ n ih =>
    intro y1 x2 h R
    refine ⟨fun hR => ?_, fun hR => ?_⟩
    · rw [Zo_liesIn_e0] at hR
      unfold Zo_liesIn_t0 at hR
      refine X_aload_n C dZo_liesIn_0 rfl ?_
      have hq := o_bind hR
      clear hR
      obtain ⟨u1, hx5, hR⟩ := hq
      obtain ⟨fs2, he3, hv4⟩ := gi_e hx5
      refine X_get (k := 2) C oZo fwZo_26 he3 hv4 dZo_liesIn_1 ?_
      refine X_if_ne (tgt := 14) C dZo_liesIn_4 (by decide) (fun c6 => ?_) (fun c6 => ?_)
      · rw [if_neg c6] at hR
        refine X_aload_n C dZo_liesIn_14 rfl ?_
        have hq := o_bind hR
        clear hR
        obtain ⟨u7, hx11, hR⟩ := hq
        obtain ⟨fs8, he9, hv10⟩ := gi_e hx11
        refine X_get (k := 2) C oZo fwZo_26 he9 hv10 dZo_liesIn_15 ?_
        have hq := o_if hR
        clear hR
        obtain ⟨b12, hR⟩ := hq
        rw [← Option.some.inj hR]
        exact X_zret C hr (zb_n b12) (Nat.le_refl _) (Nat.le_refl _) dZo_liesIn_18 ⟨rfl, rfl, rfl⟩
      · rw [if_pos c6] at hR
        refine X_aload_nq C dZo_liesIn_7 rfl ?_
        have hq := o_bind hR
        clear hR
        obtain ⟨a13, rfl, hR⟩ := hq
        have hq := o_bind hR
        clear hR
        obtain ⟨u14, hx18, hR⟩ := hq
        obtain ⟨fs15, he16, hv17⟩ := gi_e hx18
        refine X_get (k := 2) C oZo fwZo_26 he16 hv17 dZo_liesIn_8 ?_
        refine X_if_eq (tgt := 19) C dZo_liesIn_11 (by decide) (fun c19 => ?_) (fun c19 => ?_)
        · rw [if_pos c19] at hR
          refine X_aload_n C dZo_liesIn_19 rfl ?_
          have hq := o_bind hR
          clear hR
          obtain ⟨u20, hx24, hR⟩ := hq
          obtain ⟨fs21, he22, hv23⟩ := gi_e hx24
          refine X_get (k := 0) C oZo fwZo_9 he22 hv23 dZo_liesIn_20 ?_
          refine X_aload_n C dZo_liesIn_23 rfl ?_
          have hq := o_bind hR
          clear hR
          obtain ⟨u25, hx29, hR⟩ := hq
          obtain ⟨fs26, he27, hv28⟩ := gi_e hx29
          refine X_get (k := 0) C oZo fwZo_9 he27 hv28 dZo_liesIn_24 ?_
          refine X_icmp_eq (tgt := 32) C dZo_liesIn_27 (by decide) (fun c30 => ?_) (fun c30 => ?_)
          · rw [if_pos c30] at hR
            refine X_iconst (v := 0) C dZo_liesIn_32 rfl ?_
            refine X_istore_n (lv' := [(2, .int ((0 : Int32))), (0, .ref (o)), (1, .ref (a13))]) C dZo_liesIn_33 (by decide) rfl ?_
            refine X_sub (lv' := [(0, .ref (o)), (1, va_rf ((some (a13)))), (2, .int ((0 : Int32)))]) [1, 2, 0] rfl ?_
            exact (ih (some (a13)) ((0 : Int32)) _ _).2 hR
          · rw [if_neg c30] at hR
            refine X_iconst (v := 0) C dZo_liesIn_30 rfl ?_
            rw [← Option.some.inj hR]
            exact X_zret C hr rfl (Nat.le_refl _) (Nat.le_refl _) dZo_liesIn_31 ⟨rfl, rfl, rfl⟩
        · rw [if_neg c19] at hR
          refine X_aload_n C dZo_liesIn_14 rfl ?_
          have hq := o_bind hR
          clear hR
          obtain ⟨u31, hx35, hR⟩ := hq
          obtain ⟨fs32, he33, hv34⟩ := gi_e hx35
          refine X_get (k := 2) C oZo fwZo_26 he33 hv34 dZo_liesIn_15 ?_
          have hq := o_if hR
          clear hR
          obtain ⟨b36, hR⟩ := hq
          rw [← Option.some.inj hR]
          exact X_zret C hr (zb_n b36) (Nat.le_refl _) (Nat.le_refl _) dZo_liesIn_18 ⟨rfl, rfl, rfl⟩
    · rw [Zo_liesIn_e34] at hR
      unfold Zo_liesIn_t34 at hR
      refine X_iload_n C dZo_liesIn_34 rfl ?_
      refine X_aload_n C dZo_liesIn_35 rfl ?_
      have hq := o_bind hR
      clear hR
      obtain ⟨w37, hx41, hR⟩ := hq
      obtain ⟨fs38, he39, hv40⟩ := gq_e hx41
      refine X_get (k := 1) C oZo fwZo_15 he39 hv40 dZo_liesIn_36 ?_
      have hq := o_bind hR
      clear hR
      obtain ⟨a42, rfl, hR⟩ := hq
      have hq := o_bind hR
      clear hR
      obtain ⟨u43, hx44, hR⟩ := hq
      obtain ⟨v45, he46, e47⟩ := al_e hx44
      refine X_alen C rfl he46 e47 dZo_liesIn_39 ?_
      refine X_icmp_ge (tgt := 66) C dZo_liesIn_40 (by decide) (fun c48 => ?_) (fun c48 => ?_)
      · rw [if_pos c48] at hR
        refine X_iconst (v := 1) C dZo_liesIn_66 rfl ?_
        rw [← Option.some.inj hR]
        exact X_zret C hr rfl (Nat.le_refl _) (Nat.le_refl _) dZo_liesIn_67 ⟨rfl, rfl, rfl⟩
      · rw [if_neg c48] at hR
        refine X_aload_n C dZo_liesIn_43 rfl ?_
        have hq := o_bind hR
        clear hR
        obtain ⟨w49, hx53, hR⟩ := hq
        obtain ⟨fs50, he51, hv52⟩ := gq_e hx53
        refine X_get (k := 1) C oZo fwZo_15 he51 hv52 dZo_liesIn_44 ?_
        refine X_iload_n C dZo_liesIn_47 rfl ?_
        have hq := o_bind hR
        clear hR
        obtain ⟨a54, rfl, hR⟩ := hq
        have hq := o_bind hR
        clear hR
        obtain ⟨u55, hx56, hR⟩ := hq
        obtain ⟨n57, f58, he59, hi60, e61⟩ := ai_e hx56
        refine X_iald C rfl he59 hi60 dZo_liesIn_48 ?_
        rw [← e61]
        refine X_aload_nq C dZo_liesIn_49 rfl ?_
        have hq := o_bind hR
        clear hR
        obtain ⟨a62, rfl, hR⟩ := hq
        have hq := o_bind hR
        clear hR
        obtain ⟨w63, hx67, hR⟩ := hq
        obtain ⟨fs64, he65, hv66⟩ := gq_e hx67
        refine X_get (k := 1) C oZo fwZo_15 he65 hv66 dZo_liesIn_50 ?_
        refine X_iload_n C dZo_liesIn_53 rfl ?_
        have hq := o_bind hR
        clear hR
        obtain ⟨a68, rfl, hR⟩ := hq
        have hq := o_bind hR
        clear hR
        obtain ⟨u69, hx70, hR⟩ := hq
        obtain ⟨n71, f72, he73, hi74, e75⟩ := ai_e hx70
        refine X_iald C rfl he73 hi74 dZo_liesIn_54 ?_
        rw [← e75]
        refine X_icmp_le (tgt := 60) C dZo_liesIn_55 (by decide) (fun c76 => ?_) (fun c76 => ?_)
        · rw [if_pos c76] at hR
          refine X_iinc (v := x2 + 1) (lv' := [(2, .int (x2 + 1)), (0, .ref (o)), (1, .ref (a62))]) C dZo_liesIn_60 rfl rfl (by decide) rfl ?_
          refine X_goto (tgt := 34) C dZo_liesIn_63 (by decide) ?_
          refine X_sub (lv' := [(0, .ref (o)), (1, va_rf ((some (a62)))), (2, .int (x2 + 1))]) [1, 2, 0] rfl ?_
          exact (ih (some (a62)) (x2 + 1) _ _).2 hR
        · rw [if_neg c76] at hR
          refine X_iconst (v := 0) C dZo_liesIn_58 rfl ?_
          rw [← Option.some.inj hR]
          exact X_zret C hr rfl (Nat.le_refl _) (Nat.le_refl _) dZo_liesIn_59 ⟨rfl, rfl, rfl⟩
theorem Zo_liesIn_c {l : Launch} {G : xG} {B sz : Nat} {o : Nat} {n : Nat} {y1 : Option Nat} {h : xH} {R : Int32 × xH} (hR : Zo_liesIn_f n 0 o y1 0 h = some R) : xCon l yZo_liesIn cZo_liesIn 3 (some .boolean) 0 0 0 0 G B [.ref (o), va_rf (y1)] h sz (kP (some (.int R.1)) R.2 sz) := xCon.of (by decide) (by simp [lg_sl, rf_cat, cat_i, cat_r, cat_l]) (fun F e C hr hnm => X_sub (lv' := [(0, .ref (o)), (1, va_rf (y1))]) [0, 1] (by simp [lv_args, lv_pick, rf_cat, cat_i, cat_r, cat_l]) ((Zo_liesIn_x C hr n y1 0 h R).1 hR))
def Ya_isCovered_t0 (f : Nat → Int32 → xH → Option (Int32 × xH)) (n : Nat) (o : Nat) (x1 : Int32) (h : xH) : Option (Int32 × xH) := f 2 ((0 : Int32)) h
def Ya_isCovered_t2 (f : Nat → Int32 → xH → Option (Int32 × xH)) (n : Nat) (o : Nat) (x1 : Int32) (h : xH) : Option (Int32 × xH) := obd (gi h (o) 3 3) (fun u1 => (if u1 ≤ x1 then some ((0 : Int32), h) else (if kc h (o) 3 = true then obd (Ya_stateAt_f n (o) (x1) h) (fun r7 => bnd (r7.1) (fun w8 => oel (w8) (f 2 (x1 + 1) r7.2) (fun a10 => obd (gq r7.2 (o) 3 10) (fun w12 => (if kc r7.2 (a10) 2 = true then obd (St_standsAt_f n 0 (a10) (w12) 0 r7.2) (fun r17 => (if r17.1 = 0 then f 2 (x1 + 1) r17.2 else obd (gq r17.2 (o) 3 11) (fun w19 => obd (gq r17.2 (a10) 2 3) (fun w24 => obd w19 (fun a29 => (if kc r17.2 (a29) 1 = true then obd (Zo_liesIn_f n 0 (a29) (w24) 0 r17.2) (fun r30 => (if r30.1 = 0 then f 2 (x1 + 1) r30.2 else some ((1 : Int32), r30.2))) else none)))))) else none))))) else none)))
def Ya_isCovered_f : Nat → Nat → Nat → Int32 → xH → Option (Int32 × xH)
  | 0 => fun _ _ _ _ => none
  | n + 1 => fun p o x1 h => if p = 0 then Ya_isCovered_t0 (fun p x1 h => Ya_isCovered_f n p o x1 h) n o x1 h else if p = 2 then Ya_isCovered_t2 (fun p x1 h => Ya_isCovered_f n p o x1 h) n o x1 h else none
theorem Ya_isCovered_e0 (n : Nat) (o : Nat) (x1 : Int32) (h : xH) : Ya_isCovered_f (n + 1) 0 o x1 h = Ya_isCovered_t0 (fun p x1 h => Ya_isCovered_f n p o x1 h) n o x1 h := by
  show (if 0 = 0 then Ya_isCovered_t0 (fun p x1 h => Ya_isCovered_f n p o x1 h) n o x1 h else if 0 = 2 then Ya_isCovered_t2 (fun p x1 h => Ya_isCovered_f n p o x1 h) n o x1 h else none) = _
  rw [if_pos rfl]
theorem Ya_isCovered_e2 (n : Nat) (o : Nat) (x1 : Int32) (h : xH) : Ya_isCovered_f (n + 1) 2 o x1 h = Ya_isCovered_t2 (fun p x1 h => Ya_isCovered_f n p o x1 h) n o x1 h := by
  show (if 2 = 0 then Ya_isCovered_t0 (fun p x1 h => Ya_isCovered_f n p o x1 h) n o x1 h else if 2 = 2 then Ya_isCovered_t2 (fun p x1 h => Ya_isCovered_f n p o x1 h) n o x1 h else none) = _
  rw [if_neg (by decide), if_pos rfl]
set_option maxRecDepth 100000 in
set_option maxHeartbeats 8000000 in
theorem Ya_isCovered_x {F : xF} {G : xG} {B sz : Nat} {o : Nat} (C : xC F G B cYa_isCovered RYa 3 1 22 0 0) (hr : (xFM F).sig.returnType = (some .boolean)) : ∀ (n : Nat) (x1 : Int32) (h : xH) (R : Int32 × xH), (Ya_isCovered_f n 0 o x1 h = some R → X F G B (xZ F G B (kP (some (.int R.1)) R.2 sz) 0 0) 3 h sz 0 0 0 [(0, .ref (o))] []) ∧ (Ya_isCovered_f n 2 o x1 h = some R → X F G B (xZ F G B (kP (some (.int R.1)) R.2 sz) 0 0) 3 h sz 0 0 2 [(0, .ref (o)), (1, .int (x1))] []) := by
  intro n
  induction n with
  | zero => exact fun _ _ _ => ⟨(fun hR => nomatch (show (none : Option _) = some _ from hR)), (fun hR => nomatch (show (none : Option _) = some _ from hR))⟩
  | succ n ih =>
    intro x1 h R
    refine ⟨fun hR => ?_, fun hR => ?_⟩
    · rw [Ya_isCovered_e0] at hR
      unfold Ya_isCovered_t0 at hR
      refine X_iconst (v := 0) C dYa_isCovered_0 rfl ?_
      refine X_istore_n (lv' := [(1, .int ((0 : Int32))), (0, .ref (o))]) C dYa_isCovered_1 (by decide) rfl ?_
      refine X_sub (lv' := [(0, .ref (o)), (1, .int ((0 : Int32)))]) [1, 0] rfl ?_
      exact (ih ((0 : Int32)) _ _).2 hR
    · rw [Ya_isCovered_e2] at hR
      unfold Ya_isCovered_t2 at hR
      refine X_iload_n C dYa_isCovered_2 rfl ?_
      refine X_aload_n C dYa_isCovered_3 rfl ?_
      have hq := o_bind hR
      clear hR
      obtain ⟨u1, hx5, hR⟩ := hq
      obtain ⟨fs2, he3, hv4⟩ := gi_e hx5
      refine X_get (k := 3) C oYa fwYa_65 he3 hv4 dYa_isCovered_4 ?_
      refine X_icmp_ge (tgt := 53) C dYa_isCovered_7 (by decide) (fun c6 => ?_) (fun c6 => ?_)
      · rw [if_pos c6] at hR
        refine X_iconst (v := 0) C dYa_isCovered_53 rfl ?_
        rw [← Option.some.inj hR]
        exact X_zret C hr rfl (Nat.le_refl _) (Nat.le_refl _) dYa_isCovered_54 ⟨rfl, rfl, rfl⟩
      · rw [if_neg c6] at hR
        refine X_aload_n C dYa_isCovered_10 rfl ?_
        refine X_iload_n C dYa_isCovered_11 rfl ?_
        have hq := o_if hR
        clear hR
        obtain ⟨k38, hR⟩ := hq
        obtain ⟨fs39, he40⟩ := kc_e k38
        have hq := o_bind hR
        clear hR
        obtain ⟨r7, hr7, hR⟩ := hq
        refine X_callVk (As := [.int (x1)]) (rest := []) C (Ya_stateAt_c hr7) wYa_242 ⟨by decide, by decide⟩ ⟨Nat.le_refl _, Nat.le_refl _⟩ he40 oYa.2.1 rfl rfl (Nat.le_of_ble_eq_true rfl) dYa_isCovered_12 ?_
        show X F G B _ 3 (r7.2) _ _ _ _ _ [va_rf (r7.1)]
        have hq := b_bnd hR
        clear hR
        obtain ⟨w8, e9, hR⟩ := hq
        rw [← e9]
        refine X_astore_nq (lv' := [(2, va_rf (w8)), (0, .ref (o)), (1, .int (x1))]) C dYa_isCovered_15 (by decide) rfl ?_
        refine X_aload_nq C dYa_isCovered_16 rfl ?_
        refine X_ifnullq (tgt := 47) C dYa_isCovered_17 (by decide) (fun e11 => ?_) (fun a10 e11 => ?_)
        · subst e11
          rw [oel_n] at hR
          refine X_iinc (v := x1 + 1) (lv' := [(1, .int (x1 + 1)), (2, .null), (0, .ref (o))]) C dYa_isCovered_47 rfl rfl (by decide) rfl ?_
          refine X_goto (tgt := 2) C dYa_isCovered_50 (by decide) ?_
          refine X_sub (lv' := [(0, .ref (o)), (1, .int (x1 + 1))]) [2, 0] rfl ?_
          exact (ih (x1 + 1) _ _).2 hR
        · subst e11
          rw [oel_s] at hR
          refine X_aload_n C dYa_isCovered_20 rfl ?_
          refine X_aload_n C dYa_isCovered_21 rfl ?_
          have hq := o_bind hR
          clear hR
          obtain ⟨w12, hx16, hR⟩ := hq
          obtain ⟨fs13, he14, hv15⟩ := gq_e hx16
          refine X_get (k := 10) C oYa fwYa_31 he14 hv15 dYa_isCovered_22 ?_
          have hq := o_if hR
          clear hR
          obtain ⟨k35, hR⟩ := hq
          obtain ⟨fs36, he37⟩ := kc_e k35
          have hq := o_bind hR
          clear hR
          obtain ⟨r17, hr17, hR⟩ := hq
          refine X_callVk (As := [va_rf (w12)]) (rest := []) C (St_standsAt_c hr17) wYa_246 ⟨by decide, by decide⟩ ⟨Nat.le_refl _, Nat.le_refl _⟩ he37 oSt.2.1 rfl rfl (Nat.le_of_ble_eq_true rfl) dYa_isCovered_25 ?_
          show X F G B _ 3 (r17.2) _ _ _ _ _ [.int (r17.1)]
          refine X_if_eq (tgt := 47) C dYa_isCovered_28 (by decide) (fun c18 => ?_) (fun c18 => ?_)
          · rw [if_pos c18] at hR
            refine X_iinc (v := x1 + 1) (lv' := [(1, .int (x1 + 1)), (2, .ref (a10)), (0, .ref (o))]) C dYa_isCovered_47 rfl rfl (by decide) rfl ?_
            refine X_goto (tgt := 2) C dYa_isCovered_50 (by decide) ?_
            refine X_sub (lv' := [(0, .ref (o)), (1, .int (x1 + 1))]) [2, 0] rfl ?_
            exact (ih (x1 + 1) _ _).2 hR
          · rw [if_neg c18] at hR
            refine X_aload_n C dYa_isCovered_31 rfl ?_
            have hq := o_bind hR
            clear hR
            obtain ⟨w19, hx23, hR⟩ := hq
            obtain ⟨fs20, he21, hv22⟩ := gq_e hx23
            refine X_get (k := 11) C oYa fwYa_39 he21 hv22 dYa_isCovered_32 ?_
            refine X_aload_n C dYa_isCovered_35 rfl ?_
            have hq := o_bind hR
            clear hR
            obtain ⟨w24, hx28, hR⟩ := hq
            obtain ⟨fs25, he26, hv27⟩ := gq_e hx28
            refine X_get (k := 3) C oSt fwYa_113 he26 hv27 dYa_isCovered_36 ?_
            have hq := o_bind hR
            clear hR
            obtain ⟨a29, rfl, hR⟩ := hq
            have hq := o_if hR
            clear hR
            obtain ⟨k32, hR⟩ := hq
            obtain ⟨fs33, he34⟩ := kc_e k32
            have hq := o_bind hR
            clear hR
            obtain ⟨r30, hr30, hR⟩ := hq
            refine X_callVk (As := [va_rf (w24)]) (rest := []) C (Zo_liesIn_c hr30) wYa_249 ⟨by decide, by decide⟩ ⟨Nat.le_refl _, Nat.le_refl _⟩ he34 oZo.2.1 rfl rfl (Nat.le_of_ble_eq_true rfl) dYa_isCovered_39 ?_
            show X F G B _ 3 (r30.2) _ _ _ _ _ [.int (r30.1)]
            refine X_if_eq (tgt := 47) C dYa_isCovered_42 (by decide) (fun c31 => ?_) (fun c31 => ?_)
            · rw [if_pos c31] at hR
              refine X_iinc (v := x1 + 1) (lv' := [(1, .int (x1 + 1)), (2, .ref (a10)), (0, .ref (o))]) C dYa_isCovered_47 rfl rfl (by decide) rfl ?_
              refine X_goto (tgt := 2) C dYa_isCovered_50 (by decide) ?_
              refine X_sub (lv' := [(0, .ref (o)), (1, .int (x1 + 1))]) [2, 0] rfl ?_
              exact (ih (x1 + 1) _ _).2 hR
            · rw [if_neg c31] at hR
              refine X_iconst (v := 1) C dYa_isCovered_45 rfl ?_
              rw [← Option.some.inj hR]
              exact X_zret C hr rfl (Nat.le_refl _) (Nat.le_refl _) dYa_isCovered_46 ⟨rfl, rfl, rfl⟩
theorem Ya_isCovered_c {l : Launch} {G : xG} {B sz : Nat} {o : Nat} {n : Nat} {h : xH} {R : Int32 × xH} (hR : Ya_isCovered_f n 0 o 0 h = some R) : xCon l yYa_isCovered cYa_isCovered 3 (some .boolean) 1 22 0 0 G B [.ref (o)] h sz (kP (some (.int R.1)) R.2 sz) := xCon.of (by decide) (by exact Nat.le_of_ble_eq_true rfl) (fun F e C hr hnm => X_sub (lv' := [(0, .ref (o))]) [0] rfl ((Ya_isCovered_x C hr n 0 h R).1 hR))
def Ya_leastTotal_f (n : Nat) (y0 : Option Nat) (h : xH) : Option (Int32 × xH) := obd y0 (fun a1 => (if kc h (a1) 1 = true then obd (Zo_at_f n (a1) ((0 : Int32)) ((4 : Int32)) h) (fun r2 => (if (r2.1) &&& ((1 : Int32)) = (1 : Int32) then some (((2 : Int32)) * (-((r2.1) >>> (((1 : Int32)) &&& 31))), r2.2) else some ((((2 : Int32)) * (-((r2.1) >>> (((1 : Int32)) &&& 31)))) + ((1 : Int32)), r2.2))) else none))
set_option maxRecDepth 100000 in
set_option maxHeartbeats 8000000 in
theorem Ya_leastTotal_x {F : xF} {G : xG} {B sz : Nat} (C : xC F G B cYa_leastTotal RYa 3 1 22 0 0) (hr : (xFM F).sig.returnType = (some .int)) {n : Nat} {y0 : Option Nat} {h : xH} {R : Int32 × xH} (hR : Ya_leastTotal_f n y0 h = some R) : X F G B (xZ F G B (kP (some (.int R.1)) R.2 sz) 0 0) 3 h sz 0 0 0 [(0, va_rf (y0))] [] := by
  unfold Ya_leastTotal_f at hR
  refine X_aload_nq C dYa_leastTotal_0 rfl ?_
  refine X_iconst (v := 0) C dYa_leastTotal_1 rfl ?_
  refine X_iconst (v := 4) C dYa_leastTotal_2 rfl ?_
  have hq := o_bind hR
  clear hR
  obtain ⟨a1, rfl, hR⟩ := hq
  have hq := o_if hR
  clear hR
  obtain ⟨k4, hR⟩ := hq
  obtain ⟨fs5, he6⟩ := kc_e k4
  have hq := o_bind hR
  clear hR
  obtain ⟨r2, hr2, hR⟩ := hq
  refine X_callVk (As := [.int ((0 : Int32)), .int ((4 : Int32))]) (rest := []) C (Zo_at_c hr2) wYa_271 ⟨by decide, by decide⟩ ⟨Nat.le_refl _, Nat.le_refl _⟩ he6 oZo.2.1 rfl rfl (Nat.le_of_ble_eq_true rfl) dYa_leastTotal_3 ?_
  show X F G B _ 3 (r2.2) _ _ _ _ _ [.int (r2.1)]
  refine X_istore_n (lv' := [(1, .int (r2.1)), (0, .ref (a1))]) C dYa_leastTotal_6 (by decide) rfl ?_
  refine X_iload_n C dYa_leastTotal_7 rfl ?_
  refine X_iconst (v := 1) C dYa_leastTotal_8 rfl ?_
  refine X_ishr C dYa_leastTotal_9 ?_
  refine X_ineg C dYa_leastTotal_10 ?_
  refine X_istore_n (lv' := [(2, .int (-((r2.1) >>> (((1 : Int32)) &&& 31)))), (1, .int (r2.1)), (0, .ref (a1))]) C dYa_leastTotal_11 (by decide) rfl ?_
  refine X_iload_n C dYa_leastTotal_12 rfl ?_
  refine X_iconst (v := 1) C dYa_leastTotal_13 rfl ?_
  refine X_iand C dYa_leastTotal_14 ?_
  refine X_iconst (v := 1) C dYa_leastTotal_15 rfl ?_
  refine X_icmp_ne (tgt := 25) C dYa_leastTotal_16 (by decide) (fun c3 => ?_) (fun c3 => ?_)
  · rw [if_neg c3] at hR
    refine X_iconst (v := 2) C dYa_leastTotal_25 rfl ?_
    refine X_iload_n C dYa_leastTotal_26 rfl ?_
    refine X_imul C dYa_leastTotal_27 ?_
    refine X_iconst (v := 1) C dYa_leastTotal_28 rfl ?_
    refine X_iadd C dYa_leastTotal_29 ?_
    rw [← Option.some.inj hR]
    exact X_iret C hr (Nat.le_refl _) (Nat.le_refl _) dYa_leastTotal_30 ⟨rfl, rfl, rfl⟩
  · rw [if_pos c3] at hR
    refine X_iconst (v := 2) C dYa_leastTotal_19 rfl ?_
    refine X_iload_n C dYa_leastTotal_20 rfl ?_
    refine X_imul C dYa_leastTotal_21 ?_
    refine X_goto (tgt := 30) C dYa_leastTotal_22 (by decide) ?_
    rw [← Option.some.inj hR]
    exact X_iret C hr (Nat.le_refl _) (Nat.le_refl _) dYa_leastTotal_30 ⟨rfl, rfl, rfl⟩
theorem Ya_leastTotal_c {l : Launch} {G : xG} {B sz : Nat} {n : Nat} {y0 : Option Nat} {h : xH} {R : Int32 × xH} (hR : Ya_leastTotal_f n y0 h = some R) : xCon l yYa_leastTotal cYa_leastTotal 3 (some .int) 1 22 0 0 G B [va_rf (y0)] h sz (kP (some (.int R.1)) R.2 sz) := xCon.of (by decide) (by simp [lg_sl, rf_cat, cat_i, cat_r, cat_l]) (fun F e C hr hnm => X_sub (lv' := [(0, va_rf (y0))]) [0] (by simp [lv_args, lv_pick, rf_cat, cat_i, cat_r, cat_l]) (Ya_leastTotal_x C hr hR))
def Ya_tryMove_f (n : Nat) (o : Nat) (y1 : Option Nat) (x2 : Int32) (x3 : Int32) (x4 : Int32) (x5 : Int32) (h : xH) (z : Nat) : Option (Int32 × xH × Nat × Nat) := (if kc h (o) 3 = true then obd (Ya_wayAt_f n (o) (x2) (x3) h) (fun r1 => bnd (r1.1) (fun w2 => (if kc r1.2 (o) 3 = true then obd (Ya_wayAt_f n (o) (x4) (x5) r1.2) (fun r4 => bnd (r4.1) (fun w5 => oel (w2) (some ((1 : Int32), r4.2, 0, 0)) (fun a7 => obd y1 (fun a9 => obd (gq r4.2 (a9) 2 1) (fun w10 => obd (gq r4.2 (o) 3 10) (fun w15 => obd w10 (fun a20 => obd w15 (fun a21 => obd (cpi r4.2 (a20) ((0 : Int32)) (a21) ((0 : Int32)) ((3 : Int32))) (fun h22 => obd (gq h22 (o) 3 10) (fun w36 => obd (gi h22 (a7) 7 1) (fun u41 => obd w36 (fun a46 => obd (pa h22 (a46) 0 (x2) (u41)) (fun h47 => oel (w5) (obd (gq h47 (o) 3 11) (fun w56 => obd (gq h47 (a9) 2 3) (fun w61 => obd w56 (fun a66 => (if kc h47 (a66) 1 = true then obd (Zo_becomeAs_f n (a66) (w61) h47) (fun r67 => obd (gq r67.2 (o) 3 11) (fun w68 => (if kc r67.2 (o) 3 = true then obd (Ya_follow_f n (o) (w68) (some (a7)) none r67.2) (fun r73 => obd (gq r73.2 (o) 3 11) (fun w74 => (if kc r73.2 (o) 3 = true then obd (Ya_stay_f n (o) (w74) r73.2) (fun r79 => obd (gq r79.2 (o) 3 11) (fun w80 => obd w80 (fun a85 => obd (gi r79.2 (a85) 1 2) (fun u86 => (if u86 = 0 then obd (gi r79.2 (a9) 2 7) (fun u92 => obd (pf r79.2 (a9) 2 7 (.int ((u92) + ((1 : Int32))))) (fun h97 => (if kc h97 (o) 3 = true then obd (Ya_letGreatGo_f n (o) h97) (fun r103 => (if kc r103.2 (o) 3 = true then obd (Ya_isCovered_f n 0 (o) 0 r103.2) (fun r104 => (if r104.1 = 0 then obd (gi r104.2 (o) 3 3) (fun u106 => (if u106 < (200 : Int32) then (if kc r104.2 (o) 3 = true then obd (Ya_newState_f n (o) (some (a9)) r104.2 (z)) (fun r112 => oadd r112.2.2.1 r112.2.2.2 (bnd (r112.1) (fun w113 => obd w113 (fun a115 => obd (gq r112.2.1 (a115) 2 3) (fun w116 => obd (gq r112.2.1 (o) 3 11) (fun w121 => obd w116 (fun a126 => (if kc r112.2.1 (a126) 1 = true then obd (Zo_becomeAs_f n (a126) (w121) r112.2.1) (fun r127 => obd (gq r127.2 (a115) 2 4) (fun w128 => obd (gq r127.2 (a9) 2 4) (fun w133 => obd w128 (fun a138 => (if kc r127.2 (a138) 1 = true then obd (Zo_becomeAs_f n (a138) (w133) r127.2) (fun r139 => obd (gq r139.2 (a115) 2 4) (fun w140 => (if kc r139.2 (o) 3 = true then obd (Ya_follow_f n (o) (w140) (some (a7)) none r139.2) (fun r145 => obd (gq r145.2 (a115) 2 4) (fun w146 => obd (Ya_leastTotal_f n (w146) r145.2) (fun r151 => obd (pf r151.2 (a115) 2 10 (.int (r151.1))) (fun h152 => obd (gq h152 (a115) 2 4) (fun w158 => (if kc h152 (o) 3 = true then obd (Ya_stay_f n (o) (w158) h152) (fun r163 => obd (gq r163.2 (a115) 2 2) (fun w164 => obd w164 (fun a169 => obd (pa r163.2 (a169) 0 ((0 : Int32)) (x2)) (fun h170 => obd (gq h170 (a115) 2 2) (fun w177 => obd w177 (fun a182 => obd (pa h170 (a182) 0 ((1 : Int32)) (x3)) (fun h183 => obd (gq h183 (a115) 2 2) (fun w190 => obd w190 (fun a195 => obd (pa h183 (a195) 0 ((2 : Int32)) (x4)) (fun h196 => obd (gq h196 (a115) 2 2) (fun w203 => obd w203 (fun a208 => obd (pa h196 (a208) 0 ((3 : Int32)) (x5)) (fun h209 => some ((1 : Int32), h209, 0, 0)))))))))))))) else none)))))) else none))) else none))))) else none)))))))) else none) else some ((0 : Int32), r104.2, 0, 0))) else obd (gi r104.2 (a9) 2 8) (fun u233 => obd (pf r104.2 (a9) 2 8 (.int ((u233) + ((1 : Int32))))) (fun h238 => some ((1 : Int32), h238, 0, 0))))) else none)) else none))) else some ((1 : Int32), r79.2, 0, 0)))))) else none))) else none))) else none))))) (fun a54 => obd (gq h47 (o) 3 10) (fun w259 => obd (gi h47 (a54) 7 1) (fun u264 => obd w259 (fun a269 => obd (pa h47 (a269) 0 (x4) (u264)) (fun h270 => obd (gq h270 (o) 3 11) (fun w277 => obd (gq h270 (a9) 2 3) (fun w282 => obd w277 (fun a287 => (if kc h270 (a287) 1 = true then obd (Zo_becomeAs_f n (a287) (w282) h270) (fun r288 => obd (gq r288.2 (o) 3 11) (fun w289 => (if kc r288.2 (o) 3 = true then obd (Ya_follow_f n (o) (w289) (some (a7)) (some (a54)) r288.2) (fun r294 => obd (gq r294.2 (o) 3 11) (fun w295 => (if kc r294.2 (o) 3 = true then obd (Ya_stay_f n (o) (w295) r294.2) (fun r300 => obd (gq r300.2 (o) 3 11) (fun w301 => obd w301 (fun a306 => obd (gi r300.2 (a306) 1 2) (fun u307 => (if u307 = 0 then obd (gi r300.2 (a9) 2 7) (fun u313 => obd (pf r300.2 (a9) 2 7 (.int ((u313) + ((1 : Int32))))) (fun h318 => (if kc h318 (o) 3 = true then obd (Ya_letGreatGo_f n (o) h318) (fun r324 => (if kc r324.2 (o) 3 = true then obd (Ya_isCovered_f n 0 (o) 0 r324.2) (fun r325 => (if r325.1 = 0 then obd (gi r325.2 (o) 3 3) (fun u327 => (if u327 < (200 : Int32) then (if kc r325.2 (o) 3 = true then obd (Ya_newState_f n (o) (some (a9)) r325.2 (z)) (fun r333 => oadd r333.2.2.1 r333.2.2.2 (bnd (r333.1) (fun w334 => obd w334 (fun a336 => obd (gq r333.2.1 (a336) 2 3) (fun w337 => obd (gq r333.2.1 (o) 3 11) (fun w342 => obd w337 (fun a347 => (if kc r333.2.1 (a347) 1 = true then obd (Zo_becomeAs_f n (a347) (w342) r333.2.1) (fun r348 => obd (gq r348.2 (a336) 2 4) (fun w349 => obd (gq r348.2 (a9) 2 4) (fun w354 => obd w349 (fun a359 => (if kc r348.2 (a359) 1 = true then obd (Zo_becomeAs_f n (a359) (w354) r348.2) (fun r360 => obd (gq r360.2 (a336) 2 4) (fun w361 => (if kc r360.2 (o) 3 = true then obd (Ya_follow_f n (o) (w361) (some (a7)) (some (a54)) r360.2) (fun r366 => obd (gq r366.2 (a336) 2 4) (fun w367 => obd (Ya_leastTotal_f n (w367) r366.2) (fun r372 => obd (pf r372.2 (a336) 2 10 (.int (r372.1))) (fun h373 => obd (gq h373 (a336) 2 4) (fun w379 => (if kc h373 (o) 3 = true then obd (Ya_stay_f n (o) (w379) h373) (fun r384 => obd (gq r384.2 (a336) 2 2) (fun w385 => obd w385 (fun a390 => obd (pa r384.2 (a390) 0 ((0 : Int32)) (x2)) (fun h391 => obd (gq h391 (a336) 2 2) (fun w398 => obd w398 (fun a403 => obd (pa h391 (a403) 0 ((1 : Int32)) (x3)) (fun h404 => obd (gq h404 (a336) 2 2) (fun w411 => obd w411 (fun a416 => obd (pa h404 (a416) 0 ((2 : Int32)) (x4)) (fun h417 => obd (gq h417 (a336) 2 2) (fun w424 => obd w424 (fun a429 => obd (pa h417 (a429) 0 ((3 : Int32)) (x5)) (fun h430 => some ((1 : Int32), h430, 0, 0)))))))))))))) else none)))))) else none))) else none))))) else none)))))))) else none) else some ((0 : Int32), r325.2, 0, 0))) else obd (gi r325.2 (a9) 2 8) (fun u454 => obd (pf r325.2 (a9) 2 8 (.int ((u454) + ((1 : Int32))))) (fun h459 => some ((1 : Int32), h459, 0, 0))))) else none)) else none))) else some ((1 : Int32), r300.2, 0, 0)))))) else none))) else none))) else none)))))))))))))))))))))) else none))) else none)
set_option maxRecDepth 100000 in
set_option maxHeartbeats 8000000 in
theorem Ya_tryMove_x {F : xF} {G : xG} {B mc ms : Nat} {o : Nat} (C : xC F G B cYa_tryMove RYa 9 4 96 mc ms) (hr : (xFM F).sig.returnType = (some .boolean)) {n : Nat} {y1 : Option Nat} {x2 : Int32} {x3 : Int32} {x4 : Int32} {x5 : Int32} {h : xH} {z cs ss : Nat} {R : Int32 × xH × Nat × Nat} {Zf : Nat} (hm : cs + R.2.2.1 ≤ mc) (hs : ss + R.2.2.2 ≤ ms) (hz : Zf = z + R.2.2.1) (hR : Ya_tryMove_f n o y1 x2 x3 x4 x5 h z = some R) : X F G B (xZ F G B (kP (some (.int R.1)) R.2.1 Zf) mc ms) 9 h z cs ss 0 [(0, .ref (o)), (1, va_rf (y1)), (2, .int (x2)), (3, .int (x3)), (4, .int (x4)), (5, .int (x5))] [] := by
  unfold Ya_tryMove_f at hR
  refine X_aload_n C dYa_tryMove_0 rfl ?_
  refine X_iload_n C dYa_tryMove_1 rfl ?_
  refine X_iload_n C dYa_tryMove_2 rfl ?_
  have hq := o_if hR
  clear hR
  obtain ⟨k483, hR⟩ := hq
  obtain ⟨fs484, he485⟩ := kc_e k483
  have hq := o_bind hR
  clear hR
  obtain ⟨r1, hr1, hR⟩ := hq
  refine X_callVk (As := [.int (x2), .int (x3)]) (rest := []) C (Ya_wayAt_c hr1) wYa_129 ⟨by decide, by decide⟩ ⟨by omega, by omega⟩ he485 oYa.2.1 rfl rfl (Nat.le_of_ble_eq_true rfl) dYa_tryMove_3 ?_
  show X F G B _ 9 (r1.2) _ _ _ _ _ [va_rf (r1.1)]
  have hq := b_bnd hR
  clear hR
  obtain ⟨w2, e3, hR⟩ := hq
  rw [← e3]
  refine X_astoreq (lv' := [(6, va_rf (w2)), (0, .ref (o)), (1, va_rf (y1)), (2, .int (x2)), (3, .int (x3)), (4, .int (x4)), (5, .int (x5))]) C dYa_tryMove_6 (by decide) (by simp [rf_cat, cat_i, cat_r, cat_l, rf_n, rf_s] <;> decide) ?_
  refine X_aload_n C dYa_tryMove_8 rfl ?_
  refine X_iload C dYa_tryMove_9 rfl ?_
  refine X_iload C dYa_tryMove_11 rfl ?_
  have hq := o_if hR
  clear hR
  obtain ⟨k480, hR⟩ := hq
  obtain ⟨fs481, he482⟩ := kc_e k480
  have hq := o_bind hR
  clear hR
  obtain ⟨r4, hr4, hR⟩ := hq
  refine X_callVk (As := [.int (x4), .int (x5)]) (rest := []) C (Ya_wayAt_c hr4) wYa_129 ⟨by decide, by decide⟩ ⟨by omega, by omega⟩ he482 oYa.2.1 rfl rfl (Nat.le_of_ble_eq_true rfl) dYa_tryMove_13 ?_
  show X F G B _ 9 (r4.2) _ _ _ _ _ [va_rf (r4.1)]
  have hq := b_bnd hR
  clear hR
  obtain ⟨w5, e6, hR⟩ := hq
  rw [← e6]
  refine X_astoreq (lv' := [(7, va_rf (w5)), (6, va_rf (w2)), (0, .ref (o)), (1, va_rf (y1)), (2, .int (x2)), (3, .int (x3)), (4, .int (x4)), (5, .int (x5))]) C dYa_tryMove_16 (by decide) (by simp [rf_cat, cat_i, cat_r, cat_l, rf_n, rf_s] <;> decide) ?_
  refine X_aloadq C dYa_tryMove_18 rfl ?_
  refine X_ifnonnullq (tgt := 25) C dYa_tryMove_20 (by decide) (fun a7 e8 => ?_) (fun e8 => ?_)
  · subst e8
    rw [oel_s] at hR
    refine X_aload_nq C dYa_tryMove_25 rfl ?_
    have hq := o_bind hR
    clear hR
    obtain ⟨a9, rfl, hR⟩ := hq
    have hq := o_bind hR
    clear hR
    obtain ⟨w10, hx14, hR⟩ := hq
    obtain ⟨fs11, he12, hv13⟩ := gq_e hx14
    refine X_get (k := 1) C oSt fwYa_191 he12 hv13 dYa_tryMove_26 ?_
    refine X_iconst (v := 0) C dYa_tryMove_29 rfl ?_
    refine X_aload_n C dYa_tryMove_30 rfl ?_
    have hq := o_bind hR
    clear hR
    obtain ⟨w15, hx19, hR⟩ := hq
    obtain ⟨fs16, he17, hv18⟩ := gq_e hx19
    refine X_get (k := 10) C oYa fwYa_31 he17 hv18 dYa_tryMove_31 ?_
    refine X_iconst (v := 0) C dYa_tryMove_34 rfl ?_
    refine X_iconst (v := 3) C dYa_tryMove_35 rfl ?_
    have hq := o_bind hR
    clear hR
    obtain ⟨a20, rfl, hR⟩ := hq
    have hq := o_bind hR
    clear hR
    obtain ⟨a21, rfl, hR⟩ := hq
    have hq := o_bind hR
    clear hR
    obtain ⟨h22, hh23, hR⟩ := hq
    obtain ⟨n24, n25, n26, n27, n28, n29, n30, n31, n32, n33, n34, n35⟩ := cpi_e hh23
    refine X_copyi C cpYa_193 rfl n28 n29 n30 n31 n32 n33 n34 ⟨by decide, Nat.le_of_ble_eq_true rfl⟩ dYa_tryMove_36 ?_
    rw [← n35]
    refine X_aload_n C dYa_tryMove_39 rfl ?_
    have hq := o_bind hR
    clear hR
    obtain ⟨w36, hx40, hR⟩ := hq
    obtain ⟨fs37, he38, hv39⟩ := gq_e hx40
    refine X_get (k := 10) C oYa fwYa_31 he38 hv39 dYa_tryMove_40 ?_
    refine X_iload_n C dYa_tryMove_43 rfl ?_
    refine X_aload C dYa_tryMove_44 rfl ?_
    have hq := o_bind hR
    clear hR
    obtain ⟨u41, hx45, hR⟩ := hq
    obtain ⟨fs42, he43, hv44⟩ := gi_e hx45
    refine X_get (k := 1) C oWa fwYa_199 he43 hv44 dYa_tryMove_46 ?_
    have hq := o_bind hR
    clear hR
    obtain ⟨a46, rfl, hR⟩ := hq
    have hq := o_bind hR
    clear hR
    obtain ⟨h47, hh48, hR⟩ := hq
    obtain ⟨n49, f50, he51, hi52, e53⟩ := pa_e hh48
    refine X_iast C rfl he51 hi52 dYa_tryMove_49 ?_
    rw [← e53]
    refine X_aloadq C dYa_tryMove_50 rfl ?_
    refine X_ifnullq (tgt := 67) C dYa_tryMove_52 (by decide) (fun e55 => ?_) (fun a54 e55 => ?_)
    · subst e55
      rw [oel_n] at hR
      refine X_aload_n C dYa_tryMove_67 rfl ?_
      have hq := o_bind hR
      clear hR
      obtain ⟨w56, hx60, hR⟩ := hq
      obtain ⟨fs57, he58, hv59⟩ := gq_e hx60
      refine X_get (k := 11) C oYa fwYa_39 he58 hv59 dYa_tryMove_68 ?_
      refine X_aload_n C dYa_tryMove_71 rfl ?_
      have hq := o_bind hR
      clear hR
      obtain ⟨w61, hx65, hR⟩ := hq
      obtain ⟨fs62, he63, hv64⟩ := gq_e hx65
      refine X_get (k := 3) C oSt fwYa_113 he63 hv64 dYa_tryMove_72 ?_
      have hq := o_bind hR
      clear hR
      obtain ⟨a66, rfl, hR⟩ := hq
      have hq := o_if hR
      clear hR
      obtain ⟨k256, hR⟩ := hq
      obtain ⟨fs257, he258⟩ := kc_e k256
      have hq := o_bind hR
      clear hR
      obtain ⟨r67, hr67, hR⟩ := hq
      refine X_callVk (As := [va_rf (w61)]) (rest := []) C (Zo_becomeAs_c hr67) wYa_116 ⟨by decide, by decide⟩ ⟨by omega, by omega⟩ he258 oZo.2.1 rfl rfl (Nat.le_of_ble_eq_true rfl) dYa_tryMove_75 ?_
      show X F G B _ 9 (r67.2) _ _ _ _ _ []
      refine X_aload_n C dYa_tryMove_78 rfl ?_
      refine X_aload_n C dYa_tryMove_79 rfl ?_
      have hq := o_bind hR
      clear hR
      obtain ⟨w68, hx72, hR⟩ := hq
      obtain ⟨fs69, he70, hv71⟩ := gq_e hx72
      refine X_get (k := 11) C oYa fwYa_39 he70 hv71 dYa_tryMove_80 ?_
      refine X_aload C dYa_tryMove_83 rfl ?_
      refine X_aloadN C dYa_tryMove_85 rfl ?_
      have hq := o_if hR
      clear hR
      obtain ⟨k253, hR⟩ := hq
      obtain ⟨fs254, he255⟩ := kc_e k253
      have hq := o_bind hR
      clear hR
      obtain ⟨r73, hr73, hR⟩ := hq
      refine X_callVk (As := [va_rf (w68), .ref (a7), .null]) (rest := []) C (Ya_follow_c hr73) wYa_202 ⟨by decide, by decide⟩ ⟨by omega, by omega⟩ he255 oYa.2.1 rfl rfl (Nat.le_of_ble_eq_true rfl) dYa_tryMove_87 ?_
      show X F G B _ 9 (r73.2) _ _ _ _ _ []
      refine X_aload_n C dYa_tryMove_90 rfl ?_
      refine X_aload_n C dYa_tryMove_91 rfl ?_
      have hq := o_bind hR
      clear hR
      obtain ⟨w74, hx78, hR⟩ := hq
      obtain ⟨fs75, he76, hv77⟩ := gq_e hx78
      refine X_get (k := 11) C oYa fwYa_39 he76 hv77 dYa_tryMove_92 ?_
      have hq := o_if hR
      clear hR
      obtain ⟨k250, hR⟩ := hq
      obtain ⟨fs251, he252⟩ := kc_e k250
      have hq := o_bind hR
      clear hR
      obtain ⟨r79, hr79, hR⟩ := hq
      refine X_callVk (As := [va_rf (w74)]) (rest := []) C (Ya_stay_c hr79) wYa_94 ⟨by decide, by decide⟩ ⟨by omega, by omega⟩ he252 oYa.2.1 rfl rfl (Nat.le_of_ble_eq_true rfl) dYa_tryMove_95 ?_
      show X F G B _ 9 (r79.2) _ _ _ _ _ []
      refine X_aload_n C dYa_tryMove_98 rfl ?_
      have hq := o_bind hR
      clear hR
      obtain ⟨w80, hx84, hR⟩ := hq
      obtain ⟨fs81, he82, hv83⟩ := gq_e hx84
      refine X_get (k := 11) C oYa fwYa_39 he82 hv83 dYa_tryMove_99 ?_
      have hq := o_bind hR
      clear hR
      obtain ⟨a85, rfl, hR⟩ := hq
      have hq := o_bind hR
      clear hR
      obtain ⟨u86, hx90, hR⟩ := hq
      obtain ⟨fs87, he88, hv89⟩ := gi_e hx90
      refine X_get (k := 2) C oZo fwYa_97 he88 hv89 dYa_tryMove_102 ?_
      refine X_if_eq (tgt := 110) C dYa_tryMove_105 (by decide) (fun c91 => ?_) (fun c91 => ?_)
      · rw [if_pos c91] at hR
        refine X_aload_n C dYa_tryMove_110 rfl ?_
        refine X_dup C dYa_tryMove_111 rfl ?_
        have hq := o_bind hR
        clear hR
        obtain ⟨u92, hx96, hR⟩ := hq
        obtain ⟨fs93, he94, hv95⟩ := gi_e hx96
        refine X_get (k := 7) C oSt fwYa_186 he94 hv95 dYa_tryMove_112 ?_
        refine X_iconst (v := 1) C dYa_tryMove_115 rfl ?_
        refine X_iadd C dYa_tryMove_116 ?_
        have hq := o_bind hR
        clear hR
        obtain ⟨h97, hh98, hR⟩ := hq
        obtain ⟨fs99, he100, hl101, e102⟩ := pf_e hh98
        refine X_put (k := 7) C oSt fwYa_186 rfl he100 rfl rfl hl101 dYa_tryMove_117 ?_
        rw [← e102]
        refine X_aload_n C dYa_tryMove_120 rfl ?_
        have hq := o_if hR
        clear hR
        obtain ⟨k247, hR⟩ := hq
        obtain ⟨fs248, he249⟩ := kc_e k247
        have hq := o_bind hR
        clear hR
        obtain ⟨r103, hr103, hR⟩ := hq
        refine X_callVk (As := []) (rest := []) C (Ya_letGreatGo_c hr103) wYa_110 ⟨by decide, by decide⟩ ⟨by omega, by omega⟩ he249 oYa.2.1 rfl rfl (Nat.le_of_ble_eq_true rfl) dYa_tryMove_121 ?_
        show X F G B _ 9 (r103.2) _ _ _ _ _ []
        refine X_aload_n C dYa_tryMove_124 rfl ?_
        have hq := o_if hR
        clear hR
        obtain ⟨k244, hR⟩ := hq
        obtain ⟨fs245, he246⟩ := kc_e k244
        have hq := o_bind hR
        clear hR
        obtain ⟨r104, hr104, hR⟩ := hq
        refine X_callVk (As := []) (rest := []) C (Ya_isCovered_c hr104) wYa_206 ⟨by decide, by decide⟩ ⟨by omega, by omega⟩ he246 oYa.2.1 rfl rfl (Nat.le_of_ble_eq_true rfl) dYa_tryMove_125 ?_
        show X F G B _ 9 (r104.2) _ _ _ _ _ [.int (r104.1)]
        refine X_if_eq (tgt := 143) C dYa_tryMove_128 (by decide) (fun c105 => ?_) (fun c105 => ?_)
        · rw [if_pos c105] at hR
          refine X_aload_n C dYa_tryMove_143 rfl ?_
          have hq := o_bind hR
          clear hR
          obtain ⟨u106, hx110, hR⟩ := hq
          obtain ⟨fs107, he108, hv109⟩ := gi_e hx110
          refine X_get (k := 3) C oYa fwYa_65 he108 hv109 dYa_tryMove_144 ?_
          refine X_sipush (v := 200) C dYa_tryMove_147 (by decide) ?_
          refine X_icmp_lt (tgt := 155) C dYa_tryMove_150 (by decide) (fun c111 => ?_) (fun c111 => ?_)
          · rw [if_pos c111] at hR
            refine X_aload_n C dYa_tryMove_155 rfl ?_
            refine X_aload_n C dYa_tryMove_156 rfl ?_
            have hq := o_if hR
            clear hR
            obtain ⟨k230, hR⟩ := hq
            obtain ⟨fs231, he232⟩ := kc_e k230
            have hq := o_bind hR
            clear hR
            obtain ⟨r112, hr112, hR⟩ := hq
            have hq := o_add hR
            clear hR
            obtain ⟨R229, e228, hR⟩ := hq
            subst e228
            dsimp only at hm hs hz ⊢
            refine X_callVa (As := [.ref (a9)]) (rest := []) C (Ya_newState_c hr112) wYa_100 ⟨by decide, by decide⟩ ⟨by omega, by omega⟩ he232 oYa.2.1 rfl rfl (Nat.le_of_ble_eq_true rfl) dYa_tryMove_157 ?_
            show X F G B _ 9 (r112.2.1) _ _ _ _ _ [va_rf (r112.1)]
            have hq := b_bnd hR
            clear hR
            obtain ⟨w113, e114, hR⟩ := hq
            rw [← e114]
            refine X_astoreq (lv' := [(8, va_rf (w113)), (7, .null), (6, .ref (a7)), (0, .ref (o)), (1, .ref (a9)), (2, .int (x2)), (3, .int (x3)), (4, .int (x4)), (5, .int (x5))]) C dYa_tryMove_160 (by decide) rfl ?_
            refine X_aloadq C dYa_tryMove_162 rfl ?_
            have hq := o_bind hR
            clear hR
            obtain ⟨a115, rfl, hR⟩ := hq
            have hq := o_bind hR
            clear hR
            obtain ⟨w116, hx120, hR⟩ := hq
            obtain ⟨fs117, he118, hv119⟩ := gq_e hx120
            refine X_get (k := 3) C oSt fwYa_113 he118 hv119 dYa_tryMove_164 ?_
            refine X_aload_n C dYa_tryMove_167 rfl ?_
            have hq := o_bind hR
            clear hR
            obtain ⟨w121, hx125, hR⟩ := hq
            obtain ⟨fs122, he123, hv124⟩ := gq_e hx125
            refine X_get (k := 11) C oYa fwYa_39 he123 hv124 dYa_tryMove_168 ?_
            have hq := o_bind hR
            clear hR
            obtain ⟨a126, rfl, hR⟩ := hq
            have hq := o_if hR
            clear hR
            obtain ⟨k225, hR⟩ := hq
            obtain ⟨fs226, he227⟩ := kc_e k225
            have hq := o_bind hR
            clear hR
            obtain ⟨r127, hr127, hR⟩ := hq
            refine X_callVk (As := [va_rf (w121)]) (rest := []) C (Zo_becomeAs_c hr127) wYa_116 ⟨by decide, by decide⟩ ⟨by omega, by omega⟩ he227 oZo.2.1 rfl rfl (Nat.le_of_ble_eq_true rfl) dYa_tryMove_171 ?_
            show X F G B _ 9 (r127.2) _ _ _ _ _ []
            refine X_aload C dYa_tryMove_174 rfl ?_
            have hq := o_bind hR
            clear hR
            obtain ⟨w128, hx132, hR⟩ := hq
            obtain ⟨fs129, he130, hv131⟩ := gq_e hx132
            refine X_get (k := 4) C oSt fwYa_104 he130 hv131 dYa_tryMove_176 ?_
            refine X_aload_n C dYa_tryMove_179 rfl ?_
            have hq := o_bind hR
            clear hR
            obtain ⟨w133, hx137, hR⟩ := hq
            obtain ⟨fs134, he135, hv136⟩ := gq_e hx137
            refine X_get (k := 4) C oSt fwYa_104 he135 hv136 dYa_tryMove_180 ?_
            have hq := o_bind hR
            clear hR
            obtain ⟨a138, rfl, hR⟩ := hq
            have hq := o_if hR
            clear hR
            obtain ⟨k222, hR⟩ := hq
            obtain ⟨fs223, he224⟩ := kc_e k222
            have hq := o_bind hR
            clear hR
            obtain ⟨r139, hr139, hR⟩ := hq
            refine X_callVk (As := [va_rf (w133)]) (rest := []) C (Zo_becomeAs_c hr139) wYa_116 ⟨by decide, by decide⟩ ⟨by omega, by omega⟩ he224 oZo.2.1 rfl rfl (Nat.le_of_ble_eq_true rfl) dYa_tryMove_183 ?_
            show X F G B _ 9 (r139.2) _ _ _ _ _ []
            refine X_aload_n C dYa_tryMove_186 rfl ?_
            refine X_aload C dYa_tryMove_187 rfl ?_
            have hq := o_bind hR
            clear hR
            obtain ⟨w140, hx144, hR⟩ := hq
            obtain ⟨fs141, he142, hv143⟩ := gq_e hx144
            refine X_get (k := 4) C oSt fwYa_104 he142 hv143 dYa_tryMove_189 ?_
            refine X_aload C dYa_tryMove_192 rfl ?_
            refine X_aloadN C dYa_tryMove_194 rfl ?_
            have hq := o_if hR
            clear hR
            obtain ⟨k219, hR⟩ := hq
            obtain ⟨fs220, he221⟩ := kc_e k219
            have hq := o_bind hR
            clear hR
            obtain ⟨r145, hr145, hR⟩ := hq
            refine X_callVk (As := [va_rf (w140), .ref (a7), .null]) (rest := []) C (Ya_follow_c hr145) wYa_202 ⟨by decide, by decide⟩ ⟨by omega, by omega⟩ he221 oYa.2.1 rfl rfl (Nat.le_of_ble_eq_true rfl) dYa_tryMove_196 ?_
            show X F G B _ 9 (r145.2) _ _ _ _ _ []
            refine X_aload C dYa_tryMove_199 rfl ?_
            refine X_aload C dYa_tryMove_201 rfl ?_
            have hq := o_bind hR
            clear hR
            obtain ⟨w146, hx150, hR⟩ := hq
            obtain ⟨fs147, he148, hv149⟩ := gq_e hx150
            refine X_get (k := 4) C oSt fwYa_104 he148 hv149 dYa_tryMove_203 ?_
            have hq := o_bind hR
            clear hR
            obtain ⟨r151, hr151, hR⟩ := hq
            refine X_callSk (As := [va_rf (w146)]) (rest := [.ref (a115)]) C (Ya_leastTotal_c hr151) wYa_210 ⟨by decide, by decide⟩ ⟨by omega, by omega⟩ rfl rfl (Nat.le_of_ble_eq_true rfl) dYa_tryMove_206 ?_
            show X F G B _ 9 (r151.2) _ _ _ _ _ [.int (r151.1), .ref (a115)]
            have hq := o_bind hR
            clear hR
            obtain ⟨h152, hh153, hR⟩ := hq
            obtain ⟨fs154, he155, hl156, e157⟩ := pf_e hh153
            refine X_put (k := 10) C oSt fwYa_107 rfl he155 rfl rfl hl156 dYa_tryMove_209 ?_
            rw [← e157]
            refine X_aload_n C dYa_tryMove_212 rfl ?_
            refine X_aload C dYa_tryMove_213 rfl ?_
            have hq := o_bind hR
            clear hR
            obtain ⟨w158, hx162, hR⟩ := hq
            obtain ⟨fs159, he160, hv161⟩ := gq_e hx162
            refine X_get (k := 4) C oSt fwYa_104 he160 hv161 dYa_tryMove_215 ?_
            have hq := o_if hR
            clear hR
            obtain ⟨k216, hR⟩ := hq
            obtain ⟨fs217, he218⟩ := kc_e k216
            have hq := o_bind hR
            clear hR
            obtain ⟨r163, hr163, hR⟩ := hq
            refine X_callVk (As := [va_rf (w158)]) (rest := []) C (Ya_stay_c hr163) wYa_94 ⟨by decide, by decide⟩ ⟨by omega, by omega⟩ he218 oYa.2.1 rfl rfl (Nat.le_of_ble_eq_true rfl) dYa_tryMove_218 ?_
            show X F G B _ 9 (r163.2) _ _ _ _ _ []
            refine X_aload C dYa_tryMove_221 rfl ?_
            have hq := o_bind hR
            clear hR
            obtain ⟨w164, hx168, hR⟩ := hq
            obtain ⟨fs165, he166, hv167⟩ := gq_e hx168
            refine X_get (k := 2) C oSt fwYa_214 he166 hv167 dYa_tryMove_223 ?_
            refine X_iconst (v := 0) C dYa_tryMove_226 rfl ?_
            refine X_iload_n C dYa_tryMove_227 rfl ?_
            have hq := o_bind hR
            clear hR
            obtain ⟨a169, rfl, hR⟩ := hq
            have hq := o_bind hR
            clear hR
            obtain ⟨h170, hh171, hR⟩ := hq
            obtain ⟨n172, f173, he174, hi175, e176⟩ := pa_e hh171
            refine X_iast C rfl he174 hi175 dYa_tryMove_228 ?_
            rw [← e176]
            refine X_aload C dYa_tryMove_229 rfl ?_
            have hq := o_bind hR
            clear hR
            obtain ⟨w177, hx181, hR⟩ := hq
            obtain ⟨fs178, he179, hv180⟩ := gq_e hx181
            refine X_get (k := 2) C oSt fwYa_214 he179 hv180 dYa_tryMove_231 ?_
            refine X_iconst (v := 1) C dYa_tryMove_234 rfl ?_
            refine X_iload_n C dYa_tryMove_235 rfl ?_
            have hq := o_bind hR
            clear hR
            obtain ⟨a182, rfl, hR⟩ := hq
            have hq := o_bind hR
            clear hR
            obtain ⟨h183, hh184, hR⟩ := hq
            obtain ⟨n185, f186, he187, hi188, e189⟩ := pa_e hh184
            refine X_iast C rfl he187 hi188 dYa_tryMove_236 ?_
            rw [← e189]
            refine X_aload C dYa_tryMove_237 rfl ?_
            have hq := o_bind hR
            clear hR
            obtain ⟨w190, hx194, hR⟩ := hq
            obtain ⟨fs191, he192, hv193⟩ := gq_e hx194
            refine X_get (k := 2) C oSt fwYa_214 he192 hv193 dYa_tryMove_239 ?_
            refine X_iconst (v := 2) C dYa_tryMove_242 rfl ?_
            refine X_iload C dYa_tryMove_243 rfl ?_
            have hq := o_bind hR
            clear hR
            obtain ⟨a195, rfl, hR⟩ := hq
            have hq := o_bind hR
            clear hR
            obtain ⟨h196, hh197, hR⟩ := hq
            obtain ⟨n198, f199, he200, hi201, e202⟩ := pa_e hh197
            refine X_iast C rfl he200 hi201 dYa_tryMove_245 ?_
            rw [← e202]
            refine X_aload C dYa_tryMove_246 rfl ?_
            have hq := o_bind hR
            clear hR
            obtain ⟨w203, hx207, hR⟩ := hq
            obtain ⟨fs204, he205, hv206⟩ := gq_e hx207
            refine X_get (k := 2) C oSt fwYa_214 he205 hv206 dYa_tryMove_248 ?_
            refine X_iconst (v := 3) C dYa_tryMove_251 rfl ?_
            refine X_iload C dYa_tryMove_252 rfl ?_
            have hq := o_bind hR
            clear hR
            obtain ⟨a208, rfl, hR⟩ := hq
            have hq := o_bind hR
            clear hR
            obtain ⟨h209, hh210, hR⟩ := hq
            obtain ⟨n211, f212, he213, hi214, e215⟩ := pa_e hh210
            refine X_iast C rfl he213 hi214 dYa_tryMove_254 ?_
            rw [← e215]
            refine X_iconst (v := 1) C dYa_tryMove_255 rfl ?_
            have hR := Option.some.inj hR
            subst hR
            dsimp only at hm hs hz ⊢
            exact X_zret C hr rfl (by omega) (by omega) dYa_tryMove_256 ⟨rfl, rfl, by omega⟩
          · rw [if_neg c111] at hR
            refine X_iconst (v := 0) C dYa_tryMove_153 rfl ?_
            have hR := Option.some.inj hR
            subst hR
            dsimp only at hm hs hz ⊢
            exact X_zret C hr rfl (by omega) (by omega) dYa_tryMove_154 ⟨rfl, rfl, by omega⟩
        · rw [if_neg c105] at hR
          refine X_aload_n C dYa_tryMove_131 rfl ?_
          refine X_dup C dYa_tryMove_132 rfl ?_
          have hq := o_bind hR
          clear hR
          obtain ⟨u233, hx237, hR⟩ := hq
          obtain ⟨fs234, he235, hv236⟩ := gi_e hx237
          refine X_get (k := 8) C oSt fwYa_187 he235 hv236 dYa_tryMove_133 ?_
          refine X_iconst (v := 1) C dYa_tryMove_136 rfl ?_
          refine X_iadd C dYa_tryMove_137 ?_
          have hq := o_bind hR
          clear hR
          obtain ⟨h238, hh239, hR⟩ := hq
          obtain ⟨fs240, he241, hl242, e243⟩ := pf_e hh239
          refine X_put (k := 8) C oSt fwYa_187 rfl he241 rfl rfl hl242 dYa_tryMove_138 ?_
          rw [← e243]
          refine X_iconst (v := 1) C dYa_tryMove_141 rfl ?_
          have hR := Option.some.inj hR
          subst hR
          dsimp only at hm hs hz ⊢
          exact X_zret C hr rfl (by omega) (by omega) dYa_tryMove_142 ⟨rfl, rfl, by omega⟩
      · rw [if_neg c91] at hR
        refine X_iconst (v := 1) C dYa_tryMove_108 rfl ?_
        have hR := Option.some.inj hR
        subst hR
        dsimp only at hm hs hz ⊢
        exact X_zret C hr rfl (by omega) (by omega) dYa_tryMove_109 ⟨rfl, rfl, by omega⟩
    · subst e55
      rw [oel_s] at hR
      refine X_aload_n C dYa_tryMove_55 rfl ?_
      have hq := o_bind hR
      clear hR
      obtain ⟨w259, hx263, hR⟩ := hq
      obtain ⟨fs260, he261, hv262⟩ := gq_e hx263
      refine X_get (k := 10) C oYa fwYa_31 he261 hv262 dYa_tryMove_56 ?_
      refine X_iload C dYa_tryMove_59 rfl ?_
      refine X_aload C dYa_tryMove_61 rfl ?_
      have hq := o_bind hR
      clear hR
      obtain ⟨u264, hx268, hR⟩ := hq
      obtain ⟨fs265, he266, hv267⟩ := gi_e hx268
      refine X_get (k := 1) C oWa fwYa_199 he266 hv267 dYa_tryMove_63 ?_
      have hq := o_bind hR
      clear hR
      obtain ⟨a269, rfl, hR⟩ := hq
      have hq := o_bind hR
      clear hR
      obtain ⟨h270, hh271, hR⟩ := hq
      obtain ⟨n272, f273, he274, hi275, e276⟩ := pa_e hh271
      refine X_iast C rfl he274 hi275 dYa_tryMove_66 ?_
      rw [← e276]
      refine X_aload_n C dYa_tryMove_67 rfl ?_
      have hq := o_bind hR
      clear hR
      obtain ⟨w277, hx281, hR⟩ := hq
      obtain ⟨fs278, he279, hv280⟩ := gq_e hx281
      refine X_get (k := 11) C oYa fwYa_39 he279 hv280 dYa_tryMove_68 ?_
      refine X_aload_n C dYa_tryMove_71 rfl ?_
      have hq := o_bind hR
      clear hR
      obtain ⟨w282, hx286, hR⟩ := hq
      obtain ⟨fs283, he284, hv285⟩ := gq_e hx286
      refine X_get (k := 3) C oSt fwYa_113 he284 hv285 dYa_tryMove_72 ?_
      have hq := o_bind hR
      clear hR
      obtain ⟨a287, rfl, hR⟩ := hq
      have hq := o_if hR
      clear hR
      obtain ⟨k477, hR⟩ := hq
      obtain ⟨fs478, he479⟩ := kc_e k477
      have hq := o_bind hR
      clear hR
      obtain ⟨r288, hr288, hR⟩ := hq
      refine X_callVk (As := [va_rf (w282)]) (rest := []) C (Zo_becomeAs_c hr288) wYa_116 ⟨by decide, by decide⟩ ⟨by omega, by omega⟩ he479 oZo.2.1 rfl rfl (Nat.le_of_ble_eq_true rfl) dYa_tryMove_75 ?_
      show X F G B _ 9 (r288.2) _ _ _ _ _ []
      refine X_aload_n C dYa_tryMove_78 rfl ?_
      refine X_aload_n C dYa_tryMove_79 rfl ?_
      have hq := o_bind hR
      clear hR
      obtain ⟨w289, hx293, hR⟩ := hq
      obtain ⟨fs290, he291, hv292⟩ := gq_e hx293
      refine X_get (k := 11) C oYa fwYa_39 he291 hv292 dYa_tryMove_80 ?_
      refine X_aload C dYa_tryMove_83 rfl ?_
      refine X_aload C dYa_tryMove_85 rfl ?_
      have hq := o_if hR
      clear hR
      obtain ⟨k474, hR⟩ := hq
      obtain ⟨fs475, he476⟩ := kc_e k474
      have hq := o_bind hR
      clear hR
      obtain ⟨r294, hr294, hR⟩ := hq
      refine X_callVk (As := [va_rf (w289), .ref (a7), .ref (a54)]) (rest := []) C (Ya_follow_c hr294) wYa_202 ⟨by decide, by decide⟩ ⟨by omega, by omega⟩ he476 oYa.2.1 rfl rfl (Nat.le_of_ble_eq_true rfl) dYa_tryMove_87 ?_
      show X F G B _ 9 (r294.2) _ _ _ _ _ []
      refine X_aload_n C dYa_tryMove_90 rfl ?_
      refine X_aload_n C dYa_tryMove_91 rfl ?_
      have hq := o_bind hR
      clear hR
      obtain ⟨w295, hx299, hR⟩ := hq
      obtain ⟨fs296, he297, hv298⟩ := gq_e hx299
      refine X_get (k := 11) C oYa fwYa_39 he297 hv298 dYa_tryMove_92 ?_
      have hq := o_if hR
      clear hR
      obtain ⟨k471, hR⟩ := hq
      obtain ⟨fs472, he473⟩ := kc_e k471
      have hq := o_bind hR
      clear hR
      obtain ⟨r300, hr300, hR⟩ := hq
      refine X_callVk (As := [va_rf (w295)]) (rest := []) C (Ya_stay_c hr300) wYa_94 ⟨by decide, by decide⟩ ⟨by omega, by omega⟩ he473 oYa.2.1 rfl rfl (Nat.le_of_ble_eq_true rfl) dYa_tryMove_95 ?_
      show X F G B _ 9 (r300.2) _ _ _ _ _ []
      refine X_aload_n C dYa_tryMove_98 rfl ?_
      have hq := o_bind hR
      clear hR
      obtain ⟨w301, hx305, hR⟩ := hq
      obtain ⟨fs302, he303, hv304⟩ := gq_e hx305
      refine X_get (k := 11) C oYa fwYa_39 he303 hv304 dYa_tryMove_99 ?_
      have hq := o_bind hR
      clear hR
      obtain ⟨a306, rfl, hR⟩ := hq
      have hq := o_bind hR
      clear hR
      obtain ⟨u307, hx311, hR⟩ := hq
      obtain ⟨fs308, he309, hv310⟩ := gi_e hx311
      refine X_get (k := 2) C oZo fwYa_97 he309 hv310 dYa_tryMove_102 ?_
      refine X_if_eq (tgt := 110) C dYa_tryMove_105 (by decide) (fun c312 => ?_) (fun c312 => ?_)
      · rw [if_pos c312] at hR
        refine X_aload_n C dYa_tryMove_110 rfl ?_
        refine X_dup C dYa_tryMove_111 rfl ?_
        have hq := o_bind hR
        clear hR
        obtain ⟨u313, hx317, hR⟩ := hq
        obtain ⟨fs314, he315, hv316⟩ := gi_e hx317
        refine X_get (k := 7) C oSt fwYa_186 he315 hv316 dYa_tryMove_112 ?_
        refine X_iconst (v := 1) C dYa_tryMove_115 rfl ?_
        refine X_iadd C dYa_tryMove_116 ?_
        have hq := o_bind hR
        clear hR
        obtain ⟨h318, hh319, hR⟩ := hq
        obtain ⟨fs320, he321, hl322, e323⟩ := pf_e hh319
        refine X_put (k := 7) C oSt fwYa_186 rfl he321 rfl rfl hl322 dYa_tryMove_117 ?_
        rw [← e323]
        refine X_aload_n C dYa_tryMove_120 rfl ?_
        have hq := o_if hR
        clear hR
        obtain ⟨k468, hR⟩ := hq
        obtain ⟨fs469, he470⟩ := kc_e k468
        have hq := o_bind hR
        clear hR
        obtain ⟨r324, hr324, hR⟩ := hq
        refine X_callVk (As := []) (rest := []) C (Ya_letGreatGo_c hr324) wYa_110 ⟨by decide, by decide⟩ ⟨by omega, by omega⟩ he470 oYa.2.1 rfl rfl (Nat.le_of_ble_eq_true rfl) dYa_tryMove_121 ?_
        show X F G B _ 9 (r324.2) _ _ _ _ _ []
        refine X_aload_n C dYa_tryMove_124 rfl ?_
        have hq := o_if hR
        clear hR
        obtain ⟨k465, hR⟩ := hq
        obtain ⟨fs466, he467⟩ := kc_e k465
        have hq := o_bind hR
        clear hR
        obtain ⟨r325, hr325, hR⟩ := hq
        refine X_callVk (As := []) (rest := []) C (Ya_isCovered_c hr325) wYa_206 ⟨by decide, by decide⟩ ⟨by omega, by omega⟩ he467 oYa.2.1 rfl rfl (Nat.le_of_ble_eq_true rfl) dYa_tryMove_125 ?_
        show X F G B _ 9 (r325.2) _ _ _ _ _ [.int (r325.1)]
        refine X_if_eq (tgt := 143) C dYa_tryMove_128 (by decide) (fun c326 => ?_) (fun c326 => ?_)
        · rw [if_pos c326] at hR
          refine X_aload_n C dYa_tryMove_143 rfl ?_
          have hq := o_bind hR
          clear hR
          obtain ⟨u327, hx331, hR⟩ := hq
          obtain ⟨fs328, he329, hv330⟩ := gi_e hx331
          refine X_get (k := 3) C oYa fwYa_65 he329 hv330 dYa_tryMove_144 ?_
          refine X_sipush (v := 200) C dYa_tryMove_147 (by decide) ?_
          refine X_icmp_lt (tgt := 155) C dYa_tryMove_150 (by decide) (fun c332 => ?_) (fun c332 => ?_)
          · rw [if_pos c332] at hR
            refine X_aload_n C dYa_tryMove_155 rfl ?_
            refine X_aload_n C dYa_tryMove_156 rfl ?_
            have hq := o_if hR
            clear hR
            obtain ⟨k451, hR⟩ := hq
            obtain ⟨fs452, he453⟩ := kc_e k451
            have hq := o_bind hR
            clear hR
            obtain ⟨r333, hr333, hR⟩ := hq
            have hq := o_add hR
            clear hR
            obtain ⟨R450, e449, hR⟩ := hq
            subst e449
            dsimp only at hm hs hz ⊢
            refine X_callVa (As := [.ref (a9)]) (rest := []) C (Ya_newState_c hr333) wYa_100 ⟨by decide, by decide⟩ ⟨by omega, by omega⟩ he453 oYa.2.1 rfl rfl (Nat.le_of_ble_eq_true rfl) dYa_tryMove_157 ?_
            show X F G B _ 9 (r333.2.1) _ _ _ _ _ [va_rf (r333.1)]
            have hq := b_bnd hR
            clear hR
            obtain ⟨w334, e335, hR⟩ := hq
            rw [← e335]
            refine X_astoreq (lv' := [(8, va_rf (w334)), (7, .ref (a54)), (6, .ref (a7)), (0, .ref (o)), (1, .ref (a9)), (2, .int (x2)), (3, .int (x3)), (4, .int (x4)), (5, .int (x5))]) C dYa_tryMove_160 (by decide) rfl ?_
            refine X_aloadq C dYa_tryMove_162 rfl ?_
            have hq := o_bind hR
            clear hR
            obtain ⟨a336, rfl, hR⟩ := hq
            have hq := o_bind hR
            clear hR
            obtain ⟨w337, hx341, hR⟩ := hq
            obtain ⟨fs338, he339, hv340⟩ := gq_e hx341
            refine X_get (k := 3) C oSt fwYa_113 he339 hv340 dYa_tryMove_164 ?_
            refine X_aload_n C dYa_tryMove_167 rfl ?_
            have hq := o_bind hR
            clear hR
            obtain ⟨w342, hx346, hR⟩ := hq
            obtain ⟨fs343, he344, hv345⟩ := gq_e hx346
            refine X_get (k := 11) C oYa fwYa_39 he344 hv345 dYa_tryMove_168 ?_
            have hq := o_bind hR
            clear hR
            obtain ⟨a347, rfl, hR⟩ := hq
            have hq := o_if hR
            clear hR
            obtain ⟨k446, hR⟩ := hq
            obtain ⟨fs447, he448⟩ := kc_e k446
            have hq := o_bind hR
            clear hR
            obtain ⟨r348, hr348, hR⟩ := hq
            refine X_callVk (As := [va_rf (w342)]) (rest := []) C (Zo_becomeAs_c hr348) wYa_116 ⟨by decide, by decide⟩ ⟨by omega, by omega⟩ he448 oZo.2.1 rfl rfl (Nat.le_of_ble_eq_true rfl) dYa_tryMove_171 ?_
            show X F G B _ 9 (r348.2) _ _ _ _ _ []
            refine X_aload C dYa_tryMove_174 rfl ?_
            have hq := o_bind hR
            clear hR
            obtain ⟨w349, hx353, hR⟩ := hq
            obtain ⟨fs350, he351, hv352⟩ := gq_e hx353
            refine X_get (k := 4) C oSt fwYa_104 he351 hv352 dYa_tryMove_176 ?_
            refine X_aload_n C dYa_tryMove_179 rfl ?_
            have hq := o_bind hR
            clear hR
            obtain ⟨w354, hx358, hR⟩ := hq
            obtain ⟨fs355, he356, hv357⟩ := gq_e hx358
            refine X_get (k := 4) C oSt fwYa_104 he356 hv357 dYa_tryMove_180 ?_
            have hq := o_bind hR
            clear hR
            obtain ⟨a359, rfl, hR⟩ := hq
            have hq := o_if hR
            clear hR
            obtain ⟨k443, hR⟩ := hq
            obtain ⟨fs444, he445⟩ := kc_e k443
            have hq := o_bind hR
            clear hR
            obtain ⟨r360, hr360, hR⟩ := hq
            refine X_callVk (As := [va_rf (w354)]) (rest := []) C (Zo_becomeAs_c hr360) wYa_116 ⟨by decide, by decide⟩ ⟨by omega, by omega⟩ he445 oZo.2.1 rfl rfl (Nat.le_of_ble_eq_true rfl) dYa_tryMove_183 ?_
            show X F G B _ 9 (r360.2) _ _ _ _ _ []
            refine X_aload_n C dYa_tryMove_186 rfl ?_
            refine X_aload C dYa_tryMove_187 rfl ?_
            have hq := o_bind hR
            clear hR
            obtain ⟨w361, hx365, hR⟩ := hq
            obtain ⟨fs362, he363, hv364⟩ := gq_e hx365
            refine X_get (k := 4) C oSt fwYa_104 he363 hv364 dYa_tryMove_189 ?_
            refine X_aload C dYa_tryMove_192 rfl ?_
            refine X_aload C dYa_tryMove_194 rfl ?_
            have hq := o_if hR
            clear hR
            obtain ⟨k440, hR⟩ := hq
            obtain ⟨fs441, he442⟩ := kc_e k440
            have hq := o_bind hR
            clear hR
            obtain ⟨r366, hr366, hR⟩ := hq
            refine X_callVk (As := [va_rf (w361), .ref (a7), .ref (a54)]) (rest := []) C (Ya_follow_c hr366) wYa_202 ⟨by decide, by decide⟩ ⟨by omega, by omega⟩ he442 oYa.2.1 rfl rfl (Nat.le_of_ble_eq_true rfl) dYa_tryMove_196 ?_
            show X F G B _ 9 (r366.2) _ _ _ _ _ []
            refine X_aload C dYa_tryMove_199 rfl ?_
            refine X_aload C dYa_tryMove_201 rfl ?_
            have hq := o_bind hR
            clear hR
            obtain ⟨w367, hx371, hR⟩ := hq
            obtain ⟨fs368, he369, hv370⟩ := gq_e hx371
            refine X_get (k := 4) C oSt fwYa_104 he369 hv370 dYa_tryMove_203 ?_
            have hq := o_bind hR
            clear hR
            obtain ⟨r372, hr372, hR⟩ := hq
            refine X_callSk (As := [va_rf (w367)]) (rest := [.ref (a336)]) C (Ya_leastTotal_c hr372) wYa_210 ⟨by decide, by decide⟩ ⟨by omega, by omega⟩ rfl rfl (Nat.le_of_ble_eq_true rfl) dYa_tryMove_206 ?_
            show X F G B _ 9 (r372.2) _ _ _ _ _ [.int (r372.1), .ref (a336)]
            have hq := o_bind hR
            clear hR
            obtain ⟨h373, hh374, hR⟩ := hq
            obtain ⟨fs375, he376, hl377, e378⟩ := pf_e hh374
            refine X_put (k := 10) C oSt fwYa_107 rfl he376 rfl rfl hl377 dYa_tryMove_209 ?_
            rw [← e378]
            refine X_aload_n C dYa_tryMove_212 rfl ?_
            refine X_aload C dYa_tryMove_213 rfl ?_
            have hq := o_bind hR
            clear hR
            obtain ⟨w379, hx383, hR⟩ := hq
            obtain ⟨fs380, he381, hv382⟩ := gq_e hx383
            refine X_get (k := 4) C oSt fwYa_104 he381 hv382 dYa_tryMove_215 ?_
            have hq := o_if hR
            clear hR
            obtain ⟨k437, hR⟩ := hq
            obtain ⟨fs438, he439⟩ := kc_e k437
            have hq := o_bind hR
            clear hR
            obtain ⟨r384, hr384, hR⟩ := hq
            refine X_callVk (As := [va_rf (w379)]) (rest := []) C (Ya_stay_c hr384) wYa_94 ⟨by decide, by decide⟩ ⟨by omega, by omega⟩ he439 oYa.2.1 rfl rfl (Nat.le_of_ble_eq_true rfl) dYa_tryMove_218 ?_
            show X F G B _ 9 (r384.2) _ _ _ _ _ []
            refine X_aload C dYa_tryMove_221 rfl ?_
            have hq := o_bind hR
            clear hR
            obtain ⟨w385, hx389, hR⟩ := hq
            obtain ⟨fs386, he387, hv388⟩ := gq_e hx389
            refine X_get (k := 2) C oSt fwYa_214 he387 hv388 dYa_tryMove_223 ?_
            refine X_iconst (v := 0) C dYa_tryMove_226 rfl ?_
            refine X_iload_n C dYa_tryMove_227 rfl ?_
            have hq := o_bind hR
            clear hR
            obtain ⟨a390, rfl, hR⟩ := hq
            have hq := o_bind hR
            clear hR
            obtain ⟨h391, hh392, hR⟩ := hq
            obtain ⟨n393, f394, he395, hi396, e397⟩ := pa_e hh392
            refine X_iast C rfl he395 hi396 dYa_tryMove_228 ?_
            rw [← e397]
            refine X_aload C dYa_tryMove_229 rfl ?_
            have hq := o_bind hR
            clear hR
            obtain ⟨w398, hx402, hR⟩ := hq
            obtain ⟨fs399, he400, hv401⟩ := gq_e hx402
            refine X_get (k := 2) C oSt fwYa_214 he400 hv401 dYa_tryMove_231 ?_
            refine X_iconst (v := 1) C dYa_tryMove_234 rfl ?_
            refine X_iload_n C dYa_tryMove_235 rfl ?_
            have hq := o_bind hR
            clear hR
            obtain ⟨a403, rfl, hR⟩ := hq
            have hq := o_bind hR
            clear hR
            obtain ⟨h404, hh405, hR⟩ := hq
            obtain ⟨n406, f407, he408, hi409, e410⟩ := pa_e hh405
            refine X_iast C rfl he408 hi409 dYa_tryMove_236 ?_
            rw [← e410]
            refine X_aload C dYa_tryMove_237 rfl ?_
            have hq := o_bind hR
            clear hR
            obtain ⟨w411, hx415, hR⟩ := hq
            obtain ⟨fs412, he413, hv414⟩ := gq_e hx415
            refine X_get (k := 2) C oSt fwYa_214 he413 hv414 dYa_tryMove_239 ?_
            refine X_iconst (v := 2) C dYa_tryMove_242 rfl ?_
            refine X_iload C dYa_tryMove_243 rfl ?_
            have hq := o_bind hR
            clear hR
            obtain ⟨a416, rfl, hR⟩ := hq
            have hq := o_bind hR
            clear hR
            obtain ⟨h417, hh418, hR⟩ := hq
            obtain ⟨n419, f420, he421, hi422, e423⟩ := pa_e hh418
            refine X_iast C rfl he421 hi422 dYa_tryMove_245 ?_
            rw [← e423]
            refine X_aload C dYa_tryMove_246 rfl ?_
            have hq := o_bind hR
            clear hR
            obtain ⟨w424, hx428, hR⟩ := hq
            obtain ⟨fs425, he426, hv427⟩ := gq_e hx428
            refine X_get (k := 2) C oSt fwYa_214 he426 hv427 dYa_tryMove_248 ?_
            refine X_iconst (v := 3) C dYa_tryMove_251 rfl ?_
            refine X_iload C dYa_tryMove_252 rfl ?_
            have hq := o_bind hR
            clear hR
            obtain ⟨a429, rfl, hR⟩ := hq
            have hq := o_bind hR
            clear hR
            obtain ⟨h430, hh431, hR⟩ := hq
            obtain ⟨n432, f433, he434, hi435, e436⟩ := pa_e hh431
            refine X_iast C rfl he434 hi435 dYa_tryMove_254 ?_
            rw [← e436]
            refine X_iconst (v := 1) C dYa_tryMove_255 rfl ?_
            have hR := Option.some.inj hR
            subst hR
            dsimp only at hm hs hz ⊢
            exact X_zret C hr rfl (by omega) (by omega) dYa_tryMove_256 ⟨rfl, rfl, by omega⟩
          · rw [if_neg c332] at hR
            refine X_iconst (v := 0) C dYa_tryMove_153 rfl ?_
            have hR := Option.some.inj hR
            subst hR
            dsimp only at hm hs hz ⊢
            exact X_zret C hr rfl (by omega) (by omega) dYa_tryMove_154 ⟨rfl, rfl, by omega⟩
        · rw [if_neg c326] at hR
          refine X_aload_n C dYa_tryMove_131 rfl ?_
          refine X_dup C dYa_tryMove_132 rfl ?_
          have hq := o_bind hR
          clear hR
          obtain ⟨u454, hx458, hR⟩ := hq
          obtain ⟨fs455, he456, hv457⟩ := gi_e hx458
          refine X_get (k := 8) C oSt fwYa_187 he456 hv457 dYa_tryMove_133 ?_
          refine X_iconst (v := 1) C dYa_tryMove_136 rfl ?_
          refine X_iadd C dYa_tryMove_137 ?_
          have hq := o_bind hR
          clear hR
          obtain ⟨h459, hh460, hR⟩ := hq
          obtain ⟨fs461, he462, hl463, e464⟩ := pf_e hh460
          refine X_put (k := 8) C oSt fwYa_187 rfl he462 rfl rfl hl463 dYa_tryMove_138 ?_
          rw [← e464]
          refine X_iconst (v := 1) C dYa_tryMove_141 rfl ?_
          have hR := Option.some.inj hR
          subst hR
          dsimp only at hm hs hz ⊢
          exact X_zret C hr rfl (by omega) (by omega) dYa_tryMove_142 ⟨rfl, rfl, by omega⟩
      · rw [if_neg c312] at hR
        refine X_iconst (v := 1) C dYa_tryMove_108 rfl ?_
        have hR := Option.some.inj hR
        subst hR
        dsimp only at hm hs hz ⊢
        exact X_zret C hr rfl (by omega) (by omega) dYa_tryMove_109 ⟨rfl, rfl, by omega⟩
  · subst e8
    rw [oel_n] at hR
    refine X_iconst (v := 1) C dYa_tryMove_23 rfl ?_
    have hR := Option.some.inj hR
    subst hR
    dsimp only at hm hs hz ⊢
    exact X_zret C hr rfl (by omega) (by omega) dYa_tryMove_24 ⟨rfl, rfl, by omega⟩
theorem Ya_tryMove_c {l : Launch} {G : xG} {B sz : Nat} {o : Nat} {n : Nat} {y1 : Option Nat} {x2 : Int32} {x3 : Int32} {x4 : Int32} {x5 : Int32} {h : xH} {R : Int32 × xH × Nat × Nat} (hR : Ya_tryMove_f n o y1 x2 x3 x4 x5 h sz = some R) : xCon l yYa_tryMove cYa_tryMove 9 (some .boolean) 4 96 R.2.2.1 R.2.2.2 G B [.ref (o), va_rf (y1), .int (x2), .int (x3), .int (x4), .int (x5)] h sz (kP (some (.int R.1)) R.2.1 (sz + R.2.2.1)) := xCon.of (by decide) (by simp [lg_sl, rf_cat, cat_i, cat_r, cat_l]) (fun F e C hr hnm => X_sub (lv' := [(0, .ref (o)), (1, va_rf (y1)), (2, .int (x2)), (3, .int (x3)), (4, .int (x4)), (5, .int (x5))]) [0, 1, 2, 3, 4, 5] (by simp [lv_args, lv_pick, rf_cat, cat_i, cat_r, cat_l]) (Ya_tryMove_x C hr (Nat.le_of_eq (Nat.zero_add _)) (Nat.le_of_eq (Nat.zero_add _)) rfl hR))
