def Ya_machineAt_f (n : Nat) (o : Nat) (x1 : Int32) (h : xH) : Option (Option Nat × xH) := (if x1 < 0 then some (none, h) else obd (gi h (o) 3 1) (fun u2 => (if u2 ≤ x1 then some (none, h) else (if (3 : Int32) ≤ x1 then some (none, h) else obd (gq h (o) 3 0) (fun w9 => obd w9 (fun a14 => obd (aq h (a14) 6 (x1)) (fun w15 => some ((w15), h))))))))
set_option maxRecDepth 100000 in
set_option maxHeartbeats 8000000 in
theorem Ya_machineAt_x {F : xF} {G : xG} {B sz : Nat} {o : Nat} (C : xC F G B cYa_machineAt RYa 2 0 0 0 0) (hr : (xFM F).sig.returnType = (some (.object "TimedYard$Machine"))) {n : Nat} {x1 : Int32} {h : xH} {R : Option Nat × xH} (hR : Ya_machineAt_f n o x1 h = some R) : X F G B (xZ F G B (kP (some (va_rf R.1)) R.2 sz) 0 0) 2 h sz 0 0 0 [(0, .ref (o)), (1, .int (x1))] [] := by
  unfold Ya_machineAt_f at hR
  refine X_iload_n C dYa_machineAt_0 rfl ?_
  refine X_if_lt (tgt := 26) C dYa_machineAt_1 (by decide) (fun c1 => ?_) (fun c1 => ?_)
  · rw [if_pos c1] at hR
    refine X_null C dYa_machineAt_26 ?_
    rw [← Option.some.inj hR]
    exact X_aret C hr (Or.inl ⟨_, rfl⟩) (Or.inl rfl) (Nat.le_refl _) (Nat.le_refl _) dYa_machineAt_27 ⟨rfl, rfl, rfl⟩
  · rw [if_neg c1] at hR
    refine X_iload_n C dYa_machineAt_4 rfl ?_
    refine X_aload_n C dYa_machineAt_5 rfl ?_
    have hq := o_bind hR
    clear hR
    obtain ⟨u2, hx6, hR⟩ := hq
    obtain ⟨fs3, he4, hv5⟩ := gi_e hx6
    refine X_get (k := 1) C oYa fwYa_43 he4 hv5 dYa_machineAt_6 ?_
    refine X_icmp_ge (tgt := 26) C dYa_machineAt_9 (by decide) (fun c7 => ?_) (fun c7 => ?_)
    · rw [if_pos c7] at hR
      refine X_null C dYa_machineAt_26 ?_
      rw [← Option.some.inj hR]
      exact X_aret C hr (Or.inl ⟨_, rfl⟩) (Or.inl rfl) (Nat.le_refl _) (Nat.le_refl _) dYa_machineAt_27 ⟨rfl, rfl, rfl⟩
    · rw [if_neg c7] at hR
      refine X_iload_n C dYa_machineAt_12 rfl ?_
      refine X_iconst (v := 3) C dYa_machineAt_13 rfl ?_
      refine X_icmp_ge (tgt := 26) C dYa_machineAt_14 (by decide) (fun c8 => ?_) (fun c8 => ?_)
      · rw [if_pos c8] at hR
        refine X_null C dYa_machineAt_26 ?_
        rw [← Option.some.inj hR]
        exact X_aret C hr (Or.inl ⟨_, rfl⟩) (Or.inl rfl) (Nat.le_refl _) (Nat.le_refl _) dYa_machineAt_27 ⟨rfl, rfl, rfl⟩
      · rw [if_neg c8] at hR
        refine X_aload_n C dYa_machineAt_17 rfl ?_
        have hq := o_bind hR
        clear hR
        obtain ⟨w9, hx13, hR⟩ := hq
        obtain ⟨fs10, he11, hv12⟩ := gq_e hx13
        refine X_get (k := 0) C oYa fwYa_11 he11 hv12 dYa_machineAt_18 ?_
        refine X_iload_n C dYa_machineAt_21 rfl ?_
        have hq := o_bind hR
        clear hR
        obtain ⟨a14, rfl, hR⟩ := hq
        have hq := o_bind hR
        clear hR
        obtain ⟨w15, hx16, hR⟩ := hq
        obtain ⟨n17, f18, he19, hi20, e21⟩ := aq_e hx16
        refine X_aald C rfl he19 hi20 dYa_machineAt_22 ?_
        rw [← e21]
        refine X_goto (tgt := 27) C dYa_machineAt_23 (by decide) ?_
        rw [← Option.some.inj hR]
        exact X_aret C hr (Or.inl ⟨_, rfl⟩) (rf_or _) (Nat.le_refl _) (Nat.le_refl _) dYa_machineAt_27 ⟨rfl, rfl, rfl⟩
theorem Ya_machineAt_c {l : Launch} {G : xG} {B sz : Nat} {o : Nat} {n : Nat} {x1 : Int32} {h : xH} {R : Option Nat × xH} (hR : Ya_machineAt_f n o x1 h = some R) : xCon l yYa_machineAt cYa_machineAt 2 (some (.object "TimedYard$Machine")) 0 0 0 0 G B [.ref (o), .int (x1)] h sz (kP (some (va_rf R.1)) R.2 sz) := xCon.of (by decide) (by exact Nat.le_of_ble_eq_true rfl) (fun F e C hr hnm => X_sub (lv' := [(0, .ref (o)), (1, .int (x1))]) [0, 1] rfl (Ya_machineAt_x C hr hR))
def Ya_placeAt_f (n : Nat) (o : Nat) (x1 : Int32) (x2 : Int32) (h : xH) : Option (Option Nat × xH) := (if kc h (o) 3 = true then obd (Ya_machineAt_f n (o) (x1) h) (fun r1 => bnd (r1.1) (fun w2 => oel (w2) (some (none, r1.2)) (fun a4 => (if x2 < 0 then some (none, r1.2) else obd (gi r1.2 (a4) 5 2) (fun u7 => (if u7 ≤ x2 then some (none, r1.2) else (if x2 < (6 : Int32) then obd (gq r1.2 (a4) 5 0) (fun w14 => obd w14 (fun a19 => obd (aq r1.2 (a19) 4 (x2)) (fun w20 => some ((w20), r1.2)))) else some (none, r1.2)))))))) else none)
set_option maxRecDepth 100000 in
set_option maxHeartbeats 8000000 in
theorem Ya_placeAt_x {F : xF} {G : xG} {B sz : Nat} {o : Nat} (C : xC F G B cYa_placeAt RYa 4 1 21 0 0) (hr : (xFM F).sig.returnType = (some (.object "TimedYard$Place"))) {n : Nat} {x1 : Int32} {x2 : Int32} {h : xH} {R : Option Nat × xH} (hR : Ya_placeAt_f n o x1 x2 h = some R) : X F G B (xZ F G B (kP (some (va_rf R.1)) R.2 sz) 0 0) 4 h sz 0 0 0 [(0, .ref (o)), (1, .int (x1)), (2, .int (x2))] [] := by
  unfold Ya_placeAt_f at hR
  refine X_aload_n C dYa_placeAt_0 rfl ?_
  refine X_iload_n C dYa_placeAt_1 rfl ?_
  have hq := o_if hR
  clear hR
  obtain ⟨k27, hR⟩ := hq
  obtain ⟨fs28, he29⟩ := kc_e k27
  have hq := o_bind hR
  clear hR
  obtain ⟨r1, hr1, hR⟩ := hq
  refine X_callVk (As := [.int (x1)]) (rest := []) C (Ya_machineAt_c hr1) wYa_47 ⟨by decide, by decide⟩ ⟨Nat.le_refl _, Nat.le_refl _⟩ he29 oYa.2.1 rfl rfl (Nat.le_of_ble_eq_true rfl) dYa_placeAt_2 ?_
  show X F G B _ 4 (r1.2) _ _ _ _ _ [va_rf (r1.1)]
  have hq := b_bnd hR
  clear hR
  obtain ⟨w2, e3, hR⟩ := hq
  rw [← e3]
  refine X_astore_nq (lv' := [(3, va_rf (w2)), (0, .ref (o)), (1, .int (x1)), (2, .int (x2))]) C dYa_placeAt_5 (by decide) rfl ?_
  refine X_aload_nq C dYa_placeAt_6 rfl ?_
  refine X_ifnullq (tgt := 28) C dYa_placeAt_7 (by decide) (fun e5 => ?_) (fun a4 e5 => ?_)
  · subst e5
    rw [oel_n] at hR
    refine X_null C dYa_placeAt_28 ?_
    rw [← Option.some.inj hR]
    exact X_aret C hr (Or.inl ⟨_, rfl⟩) (Or.inl rfl) (Nat.le_refl _) (Nat.le_refl _) dYa_placeAt_29 ⟨rfl, rfl, rfl⟩
  · subst e5
    rw [oel_s] at hR
    refine X_iload_n C dYa_placeAt_10 rfl ?_
    refine X_if_lt (tgt := 28) C dYa_placeAt_11 (by decide) (fun c6 => ?_) (fun c6 => ?_)
    · rw [if_pos c6] at hR
      refine X_null C dYa_placeAt_28 ?_
      rw [← Option.some.inj hR]
      exact X_aret C hr (Or.inl ⟨_, rfl⟩) (Or.inl rfl) (Nat.le_refl _) (Nat.le_refl _) dYa_placeAt_29 ⟨rfl, rfl, rfl⟩
    · rw [if_neg c6] at hR
      refine X_iload_n C dYa_placeAt_14 rfl ?_
      refine X_aload_n C dYa_placeAt_15 rfl ?_
      have hq := o_bind hR
      clear hR
      obtain ⟨u7, hx11, hR⟩ := hq
      obtain ⟨fs8, he9, hv10⟩ := gi_e hx11
      refine X_get (k := 2) C oMa fwYa_51 he9 hv10 dYa_placeAt_16 ?_
      refine X_icmp_ge (tgt := 28) C dYa_placeAt_19 (by decide) (fun c12 => ?_) (fun c12 => ?_)
      · rw [if_pos c12] at hR
        refine X_null C dYa_placeAt_28 ?_
        rw [← Option.some.inj hR]
        exact X_aret C hr (Or.inl ⟨_, rfl⟩) (Or.inl rfl) (Nat.le_refl _) (Nat.le_refl _) dYa_placeAt_29 ⟨rfl, rfl, rfl⟩
      · rw [if_neg c12] at hR
        refine X_iload_n C dYa_placeAt_22 rfl ?_
        refine X_bipush (v := 6) C dYa_placeAt_23 (by decide) ?_
        refine X_icmp_lt (tgt := 30) C dYa_placeAt_25 (by decide) (fun c13 => ?_) (fun c13 => ?_)
        · rw [if_pos c13] at hR
          refine X_aload_n C dYa_placeAt_30 rfl ?_
          have hq := o_bind hR
          clear hR
          obtain ⟨w14, hx18, hR⟩ := hq
          obtain ⟨fs15, he16, hv17⟩ := gq_e hx18
          refine X_get (k := 0) C oMa fwYa_54 he16 hv17 dYa_placeAt_31 ?_
          refine X_iload_n C dYa_placeAt_34 rfl ?_
          have hq := o_bind hR
          clear hR
          obtain ⟨a19, rfl, hR⟩ := hq
          have hq := o_bind hR
          clear hR
          obtain ⟨w20, hx21, hR⟩ := hq
          obtain ⟨n22, f23, he24, hi25, e26⟩ := aq_e hx21
          refine X_aald C rfl he24 hi25 dYa_placeAt_35 ?_
          rw [← e26]
          rw [← Option.some.inj hR]
          exact X_aret C hr (Or.inl ⟨_, rfl⟩) (rf_or _) (Nat.le_refl _) (Nat.le_refl _) dYa_placeAt_36 ⟨rfl, rfl, rfl⟩
        · rw [if_neg c13] at hR
          refine X_null C dYa_placeAt_28 ?_
          rw [← Option.some.inj hR]
          exact X_aret C hr (Or.inl ⟨_, rfl⟩) (Or.inl rfl) (Nat.le_refl _) (Nat.le_refl _) dYa_placeAt_29 ⟨rfl, rfl, rfl⟩
theorem Ya_placeAt_c {l : Launch} {G : xG} {B sz : Nat} {o : Nat} {n : Nat} {x1 : Int32} {x2 : Int32} {h : xH} {R : Option Nat × xH} (hR : Ya_placeAt_f n o x1 x2 h = some R) : xCon l yYa_placeAt cYa_placeAt 4 (some (.object "TimedYard$Place")) 1 21 0 0 G B [.ref (o), .int (x1), .int (x2)] h sz (kP (some (va_rf R.1)) R.2 sz) := xCon.of (by decide) (by exact Nat.le_of_ble_eq_true rfl) (fun F e C hr hnm => X_sub (lv' := [(0, .ref (o)), (1, .int (x1)), (2, .int (x2))]) [0, 1, 2] rfl (Ya_placeAt_x C hr hR))
def Ya_wayAt_f (n : Nat) (o : Nat) (x1 : Int32) (x2 : Int32) (h : xH) : Option (Option Nat × xH) := (if kc h (o) 3 = true then obd (Ya_machineAt_f n (o) (x1) h) (fun r1 => bnd (r1.1) (fun w2 => oel (w2) (some (none, r1.2)) (fun a4 => (if x2 < 0 then some (none, r1.2) else obd (gi r1.2 (a4) 5 3) (fun u7 => (if u7 ≤ x2 then some (none, r1.2) else (if x2 < (12 : Int32) then obd (gq r1.2 (a4) 5 1) (fun w14 => obd w14 (fun a19 => obd (aq r1.2 (a19) 5 (x2)) (fun w20 => some ((w20), r1.2)))) else some (none, r1.2)))))))) else none)
set_option maxRecDepth 100000 in
set_option maxHeartbeats 8000000 in
theorem Ya_wayAt_x {F : xF} {G : xG} {B sz : Nat} {o : Nat} (C : xC F G B cYa_wayAt RYa 4 1 21 0 0) (hr : (xFM F).sig.returnType = (some (.object "TimedYard$Way"))) {n : Nat} {x1 : Int32} {x2 : Int32} {h : xH} {R : Option Nat × xH} (hR : Ya_wayAt_f n o x1 x2 h = some R) : X F G B (xZ F G B (kP (some (va_rf R.1)) R.2 sz) 0 0) 4 h sz 0 0 0 [(0, .ref (o)), (1, .int (x1)), (2, .int (x2))] [] := by
  unfold Ya_wayAt_f at hR
  refine X_aload_n C dYa_wayAt_0 rfl ?_
  refine X_iload_n C dYa_wayAt_1 rfl ?_
  have hq := o_if hR
  clear hR
  obtain ⟨k27, hR⟩ := hq
  obtain ⟨fs28, he29⟩ := kc_e k27
  have hq := o_bind hR
  clear hR
  obtain ⟨r1, hr1, hR⟩ := hq
  refine X_callVk (As := [.int (x1)]) (rest := []) C (Ya_machineAt_c hr1) wYa_47 ⟨by decide, by decide⟩ ⟨Nat.le_refl _, Nat.le_refl _⟩ he29 oYa.2.1 rfl rfl (Nat.le_of_ble_eq_true rfl) dYa_wayAt_2 ?_
  show X F G B _ 4 (r1.2) _ _ _ _ _ [va_rf (r1.1)]
  have hq := b_bnd hR
  clear hR
  obtain ⟨w2, e3, hR⟩ := hq
  rw [← e3]
  refine X_astore_nq (lv' := [(3, va_rf (w2)), (0, .ref (o)), (1, .int (x1)), (2, .int (x2))]) C dYa_wayAt_5 (by decide) rfl ?_
  refine X_aload_nq C dYa_wayAt_6 rfl ?_
  refine X_ifnullq (tgt := 28) C dYa_wayAt_7 (by decide) (fun e5 => ?_) (fun a4 e5 => ?_)
  · subst e5
    rw [oel_n] at hR
    refine X_null C dYa_wayAt_28 ?_
    rw [← Option.some.inj hR]
    exact X_aret C hr (Or.inl ⟨_, rfl⟩) (Or.inl rfl) (Nat.le_refl _) (Nat.le_refl _) dYa_wayAt_29 ⟨rfl, rfl, rfl⟩
  · subst e5
    rw [oel_s] at hR
    refine X_iload_n C dYa_wayAt_10 rfl ?_
    refine X_if_lt (tgt := 28) C dYa_wayAt_11 (by decide) (fun c6 => ?_) (fun c6 => ?_)
    · rw [if_pos c6] at hR
      refine X_null C dYa_wayAt_28 ?_
      rw [← Option.some.inj hR]
      exact X_aret C hr (Or.inl ⟨_, rfl⟩) (Or.inl rfl) (Nat.le_refl _) (Nat.le_refl _) dYa_wayAt_29 ⟨rfl, rfl, rfl⟩
    · rw [if_neg c6] at hR
      refine X_iload_n C dYa_wayAt_14 rfl ?_
      refine X_aload_n C dYa_wayAt_15 rfl ?_
      have hq := o_bind hR
      clear hR
      obtain ⟨u7, hx11, hR⟩ := hq
      obtain ⟨fs8, he9, hv10⟩ := gi_e hx11
      refine X_get (k := 3) C oMa fwYa_58 he9 hv10 dYa_wayAt_16 ?_
      refine X_icmp_ge (tgt := 28) C dYa_wayAt_19 (by decide) (fun c12 => ?_) (fun c12 => ?_)
      · rw [if_pos c12] at hR
        refine X_null C dYa_wayAt_28 ?_
        rw [← Option.some.inj hR]
        exact X_aret C hr (Or.inl ⟨_, rfl⟩) (Or.inl rfl) (Nat.le_refl _) (Nat.le_refl _) dYa_wayAt_29 ⟨rfl, rfl, rfl⟩
      · rw [if_neg c12] at hR
        refine X_iload_n C dYa_wayAt_22 rfl ?_
        refine X_bipush (v := 12) C dYa_wayAt_23 (by decide) ?_
        refine X_icmp_lt (tgt := 30) C dYa_wayAt_25 (by decide) (fun c13 => ?_) (fun c13 => ?_)
        · rw [if_pos c13] at hR
          refine X_aload_n C dYa_wayAt_30 rfl ?_
          have hq := o_bind hR
          clear hR
          obtain ⟨w14, hx18, hR⟩ := hq
          obtain ⟨fs15, he16, hv17⟩ := gq_e hx18
          refine X_get (k := 1) C oMa fwYa_61 he16 hv17 dYa_wayAt_31 ?_
          refine X_iload_n C dYa_wayAt_34 rfl ?_
          have hq := o_bind hR
          clear hR
          obtain ⟨a19, rfl, hR⟩ := hq
          have hq := o_bind hR
          clear hR
          obtain ⟨w20, hx21, hR⟩ := hq
          obtain ⟨n22, f23, he24, hi25, e26⟩ := aq_e hx21
          refine X_aald C rfl he24 hi25 dYa_wayAt_35 ?_
          rw [← e26]
          rw [← Option.some.inj hR]
          exact X_aret C hr (Or.inl ⟨_, rfl⟩) (rf_or _) (Nat.le_refl _) (Nat.le_refl _) dYa_wayAt_36 ⟨rfl, rfl, rfl⟩
        · rw [if_neg c13] at hR
          refine X_null C dYa_wayAt_28 ?_
          rw [← Option.some.inj hR]
          exact X_aret C hr (Or.inl ⟨_, rfl⟩) (Or.inl rfl) (Nat.le_refl _) (Nat.le_refl _) dYa_wayAt_29 ⟨rfl, rfl, rfl⟩
theorem Ya_wayAt_c {l : Launch} {G : xG} {B sz : Nat} {o : Nat} {n : Nat} {x1 : Int32} {x2 : Int32} {h : xH} {R : Option Nat × xH} (hR : Ya_wayAt_f n o x1 x2 h = some R) : xCon l yYa_wayAt cYa_wayAt 4 (some (.object "TimedYard$Way")) 1 21 0 0 G B [.ref (o), .int (x1), .int (x2)] h sz (kP (some (va_rf R.1)) R.2 sz) := xCon.of (by decide) (by exact Nat.le_of_ble_eq_true rfl) (fun F e C hr hnm => X_sub (lv' := [(0, .ref (o)), (1, .int (x1)), (2, .int (x2))]) [0, 1, 2] rfl (Ya_wayAt_x C hr hR))
def Ya_stateAt_f (n : Nat) (o : Nat) (x1 : Int32) (h : xH) : Option (Option Nat × xH) := (if x1 < 0 then some (none, h) else obd (gi h (o) 3 3) (fun u2 => (if u2 ≤ x1 then some (none, h) else (if (200 : Int32) ≤ x1 then some (none, h) else obd (gq h (o) 3 2) (fun w9 => obd w9 (fun a14 => obd (aq h (a14) 7 (x1)) (fun w15 => some ((w15), h))))))))
set_option maxRecDepth 100000 in
set_option maxHeartbeats 8000000 in
theorem Ya_stateAt_x {F : xF} {G : xG} {B sz : Nat} {o : Nat} (C : xC F G B cYa_stateAt RYa 2 0 0 0 0) (hr : (xFM F).sig.returnType = (some (.object "TimedYard$State"))) {n : Nat} {x1 : Int32} {h : xH} {R : Option Nat × xH} (hR : Ya_stateAt_f n o x1 h = some R) : X F G B (xZ F G B (kP (some (va_rf R.1)) R.2 sz) 0 0) 2 h sz 0 0 0 [(0, .ref (o)), (1, .int (x1))] [] := by
  unfold Ya_stateAt_f at hR
  refine X_iload_n C dYa_stateAt_0 rfl ?_
  refine X_if_lt (tgt := 28) C dYa_stateAt_1 (by decide) (fun c1 => ?_) (fun c1 => ?_)
  · rw [if_pos c1] at hR
    refine X_null C dYa_stateAt_28 ?_
    rw [← Option.some.inj hR]
    exact X_aret C hr (Or.inl ⟨_, rfl⟩) (Or.inl rfl) (Nat.le_refl _) (Nat.le_refl _) dYa_stateAt_29 ⟨rfl, rfl, rfl⟩
  · rw [if_neg c1] at hR
    refine X_iload_n C dYa_stateAt_4 rfl ?_
    refine X_aload_n C dYa_stateAt_5 rfl ?_
    have hq := o_bind hR
    clear hR
    obtain ⟨u2, hx6, hR⟩ := hq
    obtain ⟨fs3, he4, hv5⟩ := gi_e hx6
    refine X_get (k := 3) C oYa fwYa_65 he4 hv5 dYa_stateAt_6 ?_
    refine X_icmp_ge (tgt := 28) C dYa_stateAt_9 (by decide) (fun c7 => ?_) (fun c7 => ?_)
    · rw [if_pos c7] at hR
      refine X_null C dYa_stateAt_28 ?_
      rw [← Option.some.inj hR]
      exact X_aret C hr (Or.inl ⟨_, rfl⟩) (Or.inl rfl) (Nat.le_refl _) (Nat.le_refl _) dYa_stateAt_29 ⟨rfl, rfl, rfl⟩
    · rw [if_neg c7] at hR
      refine X_iload_n C dYa_stateAt_12 rfl ?_
      refine X_sipush (v := 200) C dYa_stateAt_13 (by decide) ?_
      refine X_icmp_ge (tgt := 28) C dYa_stateAt_16 (by decide) (fun c8 => ?_) (fun c8 => ?_)
      · rw [if_pos c8] at hR
        refine X_null C dYa_stateAt_28 ?_
        rw [← Option.some.inj hR]
        exact X_aret C hr (Or.inl ⟨_, rfl⟩) (Or.inl rfl) (Nat.le_refl _) (Nat.le_refl _) dYa_stateAt_29 ⟨rfl, rfl, rfl⟩
      · rw [if_neg c8] at hR
        refine X_aload_n C dYa_stateAt_19 rfl ?_
        have hq := o_bind hR
        clear hR
        obtain ⟨w9, hx13, hR⟩ := hq
        obtain ⟨fs10, he11, hv12⟩ := gq_e hx13
        refine X_get (k := 2) C oYa fwYa_19 he11 hv12 dYa_stateAt_20 ?_
        refine X_iload_n C dYa_stateAt_23 rfl ?_
        have hq := o_bind hR
        clear hR
        obtain ⟨a14, rfl, hR⟩ := hq
        have hq := o_bind hR
        clear hR
        obtain ⟨w15, hx16, hR⟩ := hq
        obtain ⟨n17, f18, he19, hi20, e21⟩ := aq_e hx16
        refine X_aald C rfl he19 hi20 dYa_stateAt_24 ?_
        rw [← e21]
        refine X_goto (tgt := 29) C dYa_stateAt_25 (by decide) ?_
        rw [← Option.some.inj hR]
        exact X_aret C hr (Or.inl ⟨_, rfl⟩) (rf_or _) (Nat.le_refl _) (Nat.le_refl _) dYa_stateAt_29 ⟨rfl, rfl, rfl⟩
theorem Ya_stateAt_c {l : Launch} {G : xG} {B sz : Nat} {o : Nat} {n : Nat} {x1 : Int32} {h : xH} {R : Option Nat × xH} (hR : Ya_stateAt_f n o x1 h = some R) : xCon l yYa_stateAt cYa_stateAt 2 (some (.object "TimedYard$State")) 0 0 0 0 G B [.ref (o), .int (x1)] h sz (kP (some (va_rf R.1)) R.2 sz) := xCon.of (by decide) (by exact Nat.le_of_ble_eq_true rfl) (fun F e C hr hnm => X_sub (lv' := [(0, .ref (o)), (1, .int (x1))]) [0, 1] rfl (Ya_stateAt_x C hr hR))
def Ya_canBeWalked_t0 (f : Nat → Int32 → xH → Option (Int32 × xH)) (n : Nat) (o : Nat) (x1 : Int32) (h : xH) : Option (Int32 × xH) := f 2 ((0 : Int32)) h
def Ya_canBeWalked_t2 (f : Nat → Int32 → xH → Option (Int32 × xH)) (n : Nat) (o : Nat) (x1 : Int32) (h : xH) : Option (Int32 × xH) := obd (gi h (o) 3 1) (fun u1 => (if u1 ≤ x1 then obd (gi h (o) 3 1) (fun u7 => (if u7 ≤ 0 then some ((0 : Int32), h) else some ((1 : Int32), h))) else (if kc h (o) 3 = true then obd (Ya_placeAt_f n (o) (x1) ((0 : Int32)) h) (fun r13 => bnd (r13.1) (fun w14 => oel (w14) (some ((0 : Int32), r13.2)) (fun a16 => f 2 (x1 + 1) r13.2))) else none)))
def Ya_canBeWalked_f : Nat → Nat → Nat → Int32 → xH → Option (Int32 × xH)
  | 0 => fun _ _ _ _ => none
  | n + 1 => fun p o x1 h => if p = 0 then Ya_canBeWalked_t0 (fun p x1 h => Ya_canBeWalked_f n p o x1 h) n o x1 h else if p = 2 then Ya_canBeWalked_t2 (fun p x1 h => Ya_canBeWalked_f n p o x1 h) n o x1 h else none
theorem Ya_canBeWalked_e0 (n : Nat) (o : Nat) (x1 : Int32) (h : xH) : Ya_canBeWalked_f (n + 1) 0 o x1 h = Ya_canBeWalked_t0 (fun p x1 h => Ya_canBeWalked_f n p o x1 h) n o x1 h := by
  show (if 0 = 0 then Ya_canBeWalked_t0 (fun p x1 h => Ya_canBeWalked_f n p o x1 h) n o x1 h else if 0 = 2 then Ya_canBeWalked_t2 (fun p x1 h => Ya_canBeWalked_f n p o x1 h) n o x1 h else none) = _
  rw [if_pos rfl]
theorem Ya_canBeWalked_e2 (n : Nat) (o : Nat) (x1 : Int32) (h : xH) : Ya_canBeWalked_f (n + 1) 2 o x1 h = Ya_canBeWalked_t2 (fun p x1 h => Ya_canBeWalked_f n p o x1 h) n o x1 h := by
  show (if 2 = 0 then Ya_canBeWalked_t0 (fun p x1 h => Ya_canBeWalked_f n p o x1 h) n o x1 h else if 2 = 2 then Ya_canBeWalked_t2 (fun p x1 h => Ya_canBeWalked_f n p o x1 h) n o x1 h else none) = _
  rw [if_neg (by decide), if_pos rfl]
set_option maxRecDepth 100000 in
set_option maxHeartbeats 8000000 in
theorem Ya_canBeWalked_x {F : xF} {G : xG} {B sz : Nat} {o : Nat} (C : xC F G B cYa_canBeWalked RYa 2 2 44 0 0) (hr : (xFM F).sig.returnType = (some .boolean)) : ∀ (n : Nat) (x1 : Int32) (h : xH) (R : Int32 × xH), (Ya_canBeWalked_f n 0 o x1 h = some R → X F G B (xZ F G B (kP (some (.int R.1)) R.2 sz) 0 0) 2 h sz 0 0 0 [(0, .ref (o))] []) ∧ (Ya_canBeWalked_f n 2 o x1 h = some R → X F G B (xZ F G B (kP (some (.int R.1)) R.2 sz) 0 0) 2 h sz 0 0 2 [(0, .ref (o)), (1, .int (x1))] []) := by
  intro n
  induction n with
  | zero => exact fun _ _ _ => ⟨(fun hR => nomatch (show (none : Option _) = some _ from hR)), (fun hR => nomatch (show (none : Option _) = some _ from hR))⟩
  | succ n ih =>
    intro x1 h R
    refine ⟨fun hR => ?_, fun hR => ?_⟩
    · rw [Ya_canBeWalked_e0] at hR
      unfold Ya_canBeWalked_t0 at hR
      refine X_iconst (v := 0) C dYa_canBeWalked_0 rfl ?_
      refine X_istore_n (lv' := [(1, .int ((0 : Int32))), (0, .ref (o))]) C dYa_canBeWalked_1 (by decide) rfl ?_
      refine X_sub (lv' := [(0, .ref (o)), (1, .int ((0 : Int32)))]) [1, 0] rfl ?_
      exact (ih ((0 : Int32)) _ _).2 hR
    · rw [Ya_canBeWalked_e2] at hR
      unfold Ya_canBeWalked_t2 at hR
      refine X_iload_n C dYa_canBeWalked_2 rfl ?_
      refine X_aload_n C dYa_canBeWalked_3 rfl ?_
      have hq := o_bind hR
      clear hR
      obtain ⟨u1, hx5, hR⟩ := hq
      obtain ⟨fs2, he3, hv4⟩ := gi_e hx5
      refine X_get (k := 1) C oYa fwYa_43 he3 hv4 dYa_canBeWalked_4 ?_
      refine X_icmp_ge (tgt := 27) C dYa_canBeWalked_7 (by decide) (fun c6 => ?_) (fun c6 => ?_)
      · rw [if_pos c6] at hR
        refine X_aload_n C dYa_canBeWalked_27 rfl ?_
        have hq := o_bind hR
        clear hR
        obtain ⟨u7, hx11, hR⟩ := hq
        obtain ⟨fs8, he9, hv10⟩ := gi_e hx11
        refine X_get (k := 1) C oYa fwYa_43 he9 hv10 dYa_canBeWalked_28 ?_
        refine X_if_le (tgt := 38) C dYa_canBeWalked_31 (by decide) (fun c12 => ?_) (fun c12 => ?_)
        · rw [if_pos c12] at hR
          refine X_iconst (v := 0) C dYa_canBeWalked_38 rfl ?_
          rw [← Option.some.inj hR]
          exact X_zret C hr rfl (Nat.le_refl _) (Nat.le_refl _) dYa_canBeWalked_39 ⟨rfl, rfl, rfl⟩
        · rw [if_neg c12] at hR
          refine X_iconst (v := 1) C dYa_canBeWalked_34 rfl ?_
          refine X_goto (tgt := 39) C dYa_canBeWalked_35 (by decide) ?_
          rw [← Option.some.inj hR]
          exact X_zret C hr rfl (Nat.le_refl _) (Nat.le_refl _) dYa_canBeWalked_39 ⟨rfl, rfl, rfl⟩
      · rw [if_neg c6] at hR
        refine X_aload_n C dYa_canBeWalked_10 rfl ?_
        refine X_iload_n C dYa_canBeWalked_11 rfl ?_
        refine X_iconst (v := 0) C dYa_canBeWalked_12 rfl ?_
        have hq := o_if hR
        clear hR
        obtain ⟨k18, hR⟩ := hq
        obtain ⟨fs19, he20⟩ := kc_e k18
        have hq := o_bind hR
        clear hR
        obtain ⟨r13, hr13, hR⟩ := hq
        refine X_callVk (As := [.int (x1), .int ((0 : Int32))]) (rest := []) C (Ya_placeAt_c hr13) wYa_68 ⟨by decide, by decide⟩ ⟨Nat.le_refl _, Nat.le_refl _⟩ he20 oYa.2.1 rfl rfl (Nat.le_of_ble_eq_true rfl) dYa_canBeWalked_13 ?_
        show X F G B _ 2 (r13.2) _ _ _ _ _ [va_rf (r13.1)]
        have hq := b_bnd hR
        clear hR
        obtain ⟨w14, e15, hR⟩ := hq
        rw [← e15]
        refine X_ifnonnullq (tgt := 21) C dYa_canBeWalked_16 (by decide) (fun a16 e17 => ?_) (fun e17 => ?_)
        · subst e17
          rw [oel_s] at hR
          refine X_iinc (v := x1 + 1) (lv' := [(1, .int (x1 + 1)), (0, .ref (o))]) C dYa_canBeWalked_21 rfl rfl (by decide) rfl ?_
          refine X_goto (tgt := 2) C dYa_canBeWalked_24 (by decide) ?_
          refine X_sub (lv' := [(0, .ref (o)), (1, .int (x1 + 1))]) [1, 0] rfl ?_
          exact (ih (x1 + 1) _ _).2 hR
        · subst e17
          rw [oel_n] at hR
          refine X_iconst (v := 0) C dYa_canBeWalked_19 rfl ?_
          rw [← Option.some.inj hR]
          exact X_zret C hr rfl (Nat.le_refl _) (Nat.le_refl _) dYa_canBeWalked_20 ⟨rfl, rfl, rfl⟩
theorem Ya_canBeWalked_c {l : Launch} {G : xG} {B sz : Nat} {o : Nat} {n : Nat} {h : xH} {R : Int32 × xH} (hR : Ya_canBeWalked_f n 0 o 0 h = some R) : xCon l yYa_canBeWalked cYa_canBeWalked 2 (some .boolean) 2 44 0 0 G B [.ref (o)] h sz (kP (some (.int R.1)) R.2 sz) := xCon.of (by decide) (by exact Nat.le_of_ble_eq_true rfl) (fun F e C hr hnm => X_sub (lv' := [(0, .ref (o))]) [0] rfl ((Ya_canBeWalked_x C hr n 0 h R).1 hR))
def Ya_heed_f (n : Nat) (o : Nat) (x1 : Int32) (x2 : Int32) (h : xH) : Option (Int32 × xH) := (if x1 ≤ 0 then some (0, h) else (if (4 : Int32) ≤ x1 then some (0, h) else obd (gq h (o) 3 9) (fun w3 => obd (gq h (o) 3 9) (fun w8 => obd w8 (fun a13 => obd (ai h (a13) 0 (x1)) (fun u14 => obd w3 (fun a21 => obd (pa h (a21) 0 (x1) ((if u14 < (if 0 ≤ (x2) >>> (((1 : Int32)) &&& 31) then (x2) >>> (((1 : Int32)) &&& 31) else -((x2) >>> (((1 : Int32)) &&& 31))) then (if 0 ≤ (x2) >>> (((1 : Int32)) &&& 31) then (x2) >>> (((1 : Int32)) &&& 31) else -((x2) >>> (((1 : Int32)) &&& 31))) else u14))) (fun h22 => some (0, h22)))))))))
set_option maxRecDepth 100000 in
set_option maxHeartbeats 8000000 in
theorem Ya_heed_x {F : xF} {G : xG} {B sz : Nat} {o : Nat} (C : xC F G B cYa_heed RYa 3 1 21 0 0) (hr : (xFM F).sig.returnType = none) {n : Nat} {x1 : Int32} {x2 : Int32} {h : xH} {R : Int32 × xH} (hR : Ya_heed_f n o x1 x2 h = some R) : X F G B (xZ F G B (kP none R.2 sz) 0 0) 3 h sz 0 0 0 [(0, .ref (o)), (1, .int (x1)), (2, .int (x2))] [] := by
  unfold Ya_heed_f at hR
  refine X_iload_n C dYa_heed_0 rfl ?_
  refine X_if_le (tgt := 30) C dYa_heed_1 (by decide) (fun c1 => ?_) (fun c1 => ?_)
  · rw [if_pos c1] at hR
    rw [← Option.some.inj hR]
    exact X_vret C hr (Nat.le_refl _) (Nat.le_refl _) dYa_heed_30 ⟨rfl, rfl, rfl⟩
  · rw [if_neg c1] at hR
    refine X_iload_n C dYa_heed_4 rfl ?_
    refine X_iconst (v := 4) C dYa_heed_5 rfl ?_
    refine X_icmp_ge (tgt := 30) C dYa_heed_6 (by decide) (fun c2 => ?_) (fun c2 => ?_)
    · rw [if_pos c2] at hR
      rw [← Option.some.inj hR]
      exact X_vret C hr (Nat.le_refl _) (Nat.le_refl _) dYa_heed_30 ⟨rfl, rfl, rfl⟩
    · rw [if_neg c2] at hR
      refine X_aload_n C dYa_heed_9 rfl ?_
      have hq := o_bind hR
      clear hR
      obtain ⟨w3, hx7, hR⟩ := hq
      obtain ⟨fs4, he5, hv6⟩ := gq_e hx7
      refine X_get (k := 9) C oYa fwYa_27 he5 hv6 dYa_heed_10 ?_
      refine X_iload_n C dYa_heed_13 rfl ?_
      refine X_aload_n C dYa_heed_14 rfl ?_
      have hq := o_bind hR
      clear hR
      obtain ⟨w8, hx12, hR⟩ := hq
      obtain ⟨fs9, he10, hv11⟩ := gq_e hx12
      refine X_get (k := 9) C oYa fwYa_27 he10 hv11 dYa_heed_15 ?_
      refine X_iload_n C dYa_heed_18 rfl ?_
      have hq := o_bind hR
      clear hR
      obtain ⟨a13, rfl, hR⟩ := hq
      have hq := o_bind hR
      clear hR
      obtain ⟨u14, hx15, hR⟩ := hq
      obtain ⟨n16, f17, he18, hi19, e20⟩ := ai_e hx15
      refine X_iald C rfl he18 hi19 dYa_heed_19 ?_
      rw [← e20]
      refine X_iload_n C dYa_heed_20 rfl ?_
      refine X_iconst (v := 1) C dYa_heed_21 rfl ?_
      refine X_ishr C dYa_heed_22 ?_
      refine X_abs C mwYa_161 ⟨by decide, by simp [rf_cat, cat_i, cat_r, cat_l]⟩ ⟨Nat.le_refl _, Nat.le_refl _⟩ dYa_heed_23 ?_
      refine X_max C mwYa_167 ⟨by decide, by simp [rf_cat, cat_i, cat_r, cat_l]⟩ ⟨Nat.le_refl _, Nat.le_refl _⟩ dYa_heed_26 ?_
      have hq := o_bind hR
      clear hR
      obtain ⟨a21, rfl, hR⟩ := hq
      have hq := o_bind hR
      clear hR
      obtain ⟨h22, hh23, hR⟩ := hq
      obtain ⟨n24, f25, he26, hi27, e28⟩ := pa_e hh23
      refine X_iast C rfl he26 hi27 dYa_heed_29 ?_
      rw [← e28]
      rw [← Option.some.inj hR]
      exact X_vret C hr (Nat.le_refl _) (Nat.le_refl _) dYa_heed_30 ⟨rfl, rfl, rfl⟩
theorem Ya_heed_c {l : Launch} {G : xG} {B sz : Nat} {o : Nat} {n : Nat} {x1 : Int32} {x2 : Int32} {h : xH} {R : Int32 × xH} (hR : Ya_heed_f n o x1 x2 h = some R) : xCon l yYa_heed cYa_heed 3 none 1 21 0 0 G B [.ref (o), .int (x1), .int (x2)] h sz (kP none R.2 sz) := xCon.of (by decide) (by exact Nat.le_of_ble_eq_true rfl) (fun F e C hr hnm => X_sub (lv' := [(0, .ref (o)), (1, .int (x1)), (2, .int (x2))]) [0, 1, 2] rfl (Ya_heed_x C hr hR))
def Ya_heedLimits_t0 (f : Nat → Option Nat → Int32 → xH → Option (Int32 × xH)) (n : Nat) (o : Nat) (y1 : Option Nat) (x2 : Int32) (h : xH) : Option (Int32 × xH) := oel (y1) (some (0, h)) (fun a1 => f 7 (some (a1)) ((0 : Int32)) h)
def Ya_heedLimits_t7 (f : Nat → Option Nat → Int32 → xH → Option (Int32 × xH)) (n : Nat) (o : Nat) (y1 : Option Nat) (x2 : Int32) (h : xH) : Option (Int32 × xH) := obd y1 (fun a3 => obd (gi h (a3) 6 2) (fun u4 => (if u4 ≤ x2 then some (0, h) else (if (2 : Int32) ≤ x2 then some (0, h) else obd (gq h (a3) 6 0) (fun w11 => obd w11 (fun a16 => obd (ai h (a16) 0 (x2)) (fun u17 => obd (gq h (a3) 6 1) (fun w24 => obd w24 (fun a29 => obd (ai h (a29) 0 (x2)) (fun u30 => (if kc h (o) 3 = true then obd (Ya_heed_f n (o) (u17) (u30) h) (fun r37 => f 7 (some (a3)) (x2 + 1) r37.2) else none)))))))))))
def Ya_heedLimits_f : Nat → Nat → Nat → Option Nat → Int32 → xH → Option (Int32 × xH)
  | 0 => fun _ _ _ _ _ => none
  | n + 1 => fun p o y1 x2 h => if p = 0 then Ya_heedLimits_t0 (fun p y1 x2 h => Ya_heedLimits_f n p o y1 x2 h) n o y1 x2 h else if p = 7 then Ya_heedLimits_t7 (fun p y1 x2 h => Ya_heedLimits_f n p o y1 x2 h) n o y1 x2 h else none
theorem Ya_heedLimits_e0 (n : Nat) (o : Nat) (y1 : Option Nat) (x2 : Int32) (h : xH) : Ya_heedLimits_f (n + 1) 0 o y1 x2 h = Ya_heedLimits_t0 (fun p y1 x2 h => Ya_heedLimits_f n p o y1 x2 h) n o y1 x2 h := by
  show (if 0 = 0 then Ya_heedLimits_t0 (fun p y1 x2 h => Ya_heedLimits_f n p o y1 x2 h) n o y1 x2 h else if 0 = 7 then Ya_heedLimits_t7 (fun p y1 x2 h => Ya_heedLimits_f n p o y1 x2 h) n o y1 x2 h else none) = _
  rw [if_pos rfl]
theorem Ya_heedLimits_e7 (n : Nat) (o : Nat) (y1 : Option Nat) (x2 : Int32) (h : xH) : Ya_heedLimits_f (n + 1) 7 o y1 x2 h = Ya_heedLimits_t7 (fun p y1 x2 h => Ya_heedLimits_f n p o y1 x2 h) n o y1 x2 h := by
  show (if 7 = 0 then Ya_heedLimits_t0 (fun p y1 x2 h => Ya_heedLimits_f n p o y1 x2 h) n o y1 x2 h else if 7 = 7 then Ya_heedLimits_t7 (fun p y1 x2 h => Ya_heedLimits_f n p o y1 x2 h) n o y1 x2 h else none) = _
  rw [if_neg (by decide), if_pos rfl]
set_option maxRecDepth 100000 in
set_option maxHeartbeats 8000000 in
theorem Ya_heedLimits_x {F : xF} {G : xG} {B sz : Nat} {o : Nat} (C : xC F G B cYa_heedLimits RYa 3 2 43 0 0) (hr : (xFM F).sig.returnType = none) : ∀ (n : Nat) (y1 : Option Nat) (x2 : Int32) (h : xH) (R : Int32 × xH), (Ya_heedLimits_f n 0 o y1 x2 h = some R → X F G B (xZ F G B (kP none R.2 sz) 0 0) 3 h sz 0 0 0 [(0, .ref (o)), (1, va_rf (y1))] []) ∧ (Ya_heedLimits_f n 7 o y1 x2 h = some R → X F G B (xZ F G B (kP none R.2 sz) 0 0) 3 h sz 0 0 7 [(0, .ref (o)), (1, va_rf (y1)), (2, .int (x2))] []) := by
  intro n
  induction n with
  | zero => exact fun _ _ _ _ => ⟨(fun hR => nomatch (show (none : Option _) = some _ from hR)), (fun hR => nomatch (show (none : Option _) = some _ from hR))⟩
  | succ n ih =>
    intro y1 x2 h R
    refine ⟨fun hR => ?_, fun hR => ?_⟩
    · rw [Ya_heedLimits_e0] at hR
      unfold Ya_heedLimits_t0 at hR
      refine X_aload_nq C dYa_heedLimits_0 rfl ?_
      refine X_ifnonnullq (tgt := 5) C dYa_heedLimits_1 (by decide) (fun a1 e2 => ?_) (fun e2 => ?_)
      · subst e2
        rw [oel_s] at hR
        refine X_iconst (v := 0) C dYa_heedLimits_5 rfl ?_
        refine X_istore_n (lv' := [(2, .int ((0 : Int32))), (0, .ref (o)), (1, .ref (a1))]) C dYa_heedLimits_6 (by decide) rfl ?_
        refine X_sub (lv' := [(0, .ref (o)), (1, va_rf ((some (a1)))), (2, .int ((0 : Int32)))]) [1, 2, 0] rfl ?_
        exact (ih (some (a1)) ((0 : Int32)) _ _).2 hR
      · subst e2
        rw [oel_n] at hR
        rw [← Option.some.inj hR]
        exact X_vret C hr (Nat.le_refl _) (Nat.le_refl _) dYa_heedLimits_4 ⟨rfl, rfl, rfl⟩
    · rw [Ya_heedLimits_e7] at hR
      unfold Ya_heedLimits_t7 at hR
      refine X_iload_n C dYa_heedLimits_7 rfl ?_
      refine X_aload_nq C dYa_heedLimits_8 rfl ?_
      have hq := o_bind hR
      clear hR
      obtain ⟨a3, rfl, hR⟩ := hq
      have hq := o_bind hR
      clear hR
      obtain ⟨u4, hx8, hR⟩ := hq
      obtain ⟨fs5, he6, hv7⟩ := gi_e hx8
      refine X_get (k := 2) C oPl fwYa_137 he6 hv7 dYa_heedLimits_9 ?_
      refine X_icmp_ge (tgt := 42) C dYa_heedLimits_12 (by decide) (fun c9 => ?_) (fun c9 => ?_)
      · rw [if_pos c9] at hR
        rw [← Option.some.inj hR]
        exact X_vret C hr (Nat.le_refl _) (Nat.le_refl _) dYa_heedLimits_42 ⟨rfl, rfl, rfl⟩
      · rw [if_neg c9] at hR
        refine X_iload_n C dYa_heedLimits_15 rfl ?_
        refine X_iconst (v := 2) C dYa_heedLimits_16 rfl ?_
        refine X_icmp_ge (tgt := 42) C dYa_heedLimits_17 (by decide) (fun c10 => ?_) (fun c10 => ?_)
        · rw [if_pos c10] at hR
          rw [← Option.some.inj hR]
          exact X_vret C hr (Nat.le_refl _) (Nat.le_refl _) dYa_heedLimits_42 ⟨rfl, rfl, rfl⟩
        · rw [if_neg c10] at hR
          refine X_aload_n C dYa_heedLimits_20 rfl ?_
          refine X_aload_n C dYa_heedLimits_21 rfl ?_
          have hq := o_bind hR
          clear hR
          obtain ⟨w11, hx15, hR⟩ := hq
          obtain ⟨fs12, he13, hv14⟩ := gq_e hx15
          refine X_get (k := 0) C oPl fwYa_142 he13 hv14 dYa_heedLimits_22 ?_
          refine X_iload_n C dYa_heedLimits_25 rfl ?_
          have hq := o_bind hR
          clear hR
          obtain ⟨a16, rfl, hR⟩ := hq
          have hq := o_bind hR
          clear hR
          obtain ⟨u17, hx18, hR⟩ := hq
          obtain ⟨n19, f20, he21, hi22, e23⟩ := ai_e hx18
          refine X_iald C rfl he21 hi22 dYa_heedLimits_26 ?_
          rw [← e23]
          refine X_aload_n C dYa_heedLimits_27 rfl ?_
          have hq := o_bind hR
          clear hR
          obtain ⟨w24, hx28, hR⟩ := hq
          obtain ⟨fs25, he26, hv27⟩ := gq_e hx28
          refine X_get (k := 1) C oPl fwYa_145 he26 hv27 dYa_heedLimits_28 ?_
          refine X_iload_n C dYa_heedLimits_31 rfl ?_
          have hq := o_bind hR
          clear hR
          obtain ⟨a29, rfl, hR⟩ := hq
          have hq := o_bind hR
          clear hR
          obtain ⟨u30, hx31, hR⟩ := hq
          obtain ⟨n32, f33, he34, hi35, e36⟩ := ai_e hx31
          refine X_iald C rfl he34 hi35 dYa_heedLimits_32 ?_
          rw [← e36]
          have hq := o_if hR
          clear hR
          obtain ⟨k38, hR⟩ := hq
          obtain ⟨fs39, he40⟩ := kc_e k38
          have hq := o_bind hR
          clear hR
          obtain ⟨r37, hr37, hR⟩ := hq
          refine X_callVk (As := [.int (u17), .int (u30)]) (rest := []) C (Ya_heed_c hr37) wYa_148 ⟨by decide, by decide⟩ ⟨Nat.le_refl _, Nat.le_refl _⟩ he40 oYa.2.1 rfl rfl (Nat.le_of_ble_eq_true rfl) dYa_heedLimits_33 ?_
          show X F G B _ 3 (r37.2) _ _ _ _ _ []
          refine X_iinc (v := x2 + 1) (lv' := [(2, .int (x2 + 1)), (0, .ref (o)), (1, .ref (a3))]) C dYa_heedLimits_36 rfl rfl (by decide) rfl ?_
          refine X_goto (tgt := 7) C dYa_heedLimits_39 (by decide) ?_
          refine X_sub (lv' := [(0, .ref (o)), (1, va_rf ((some (a3)))), (2, .int (x2 + 1))]) [1, 2, 0] rfl ?_
          exact (ih (some (a3)) (x2 + 1) _ _).2 hR
theorem Ya_heedLimits_c {l : Launch} {G : xG} {B sz : Nat} {o : Nat} {n : Nat} {y1 : Option Nat} {h : xH} {R : Int32 × xH} (hR : Ya_heedLimits_f n 0 o y1 0 h = some R) : xCon l yYa_heedLimits cYa_heedLimits 3 none 2 43 0 0 G B [.ref (o), va_rf (y1)] h sz (kP none R.2 sz) := xCon.of (by decide) (by simp [lg_sl, rf_cat, cat_i, cat_r, cat_l]) (fun F e C hr hnm => X_sub (lv' := [(0, .ref (o)), (1, va_rf (y1))]) [0, 1] (by simp [lv_args, lv_pick, rf_cat, cat_i, cat_r, cat_l]) ((Ya_heedLimits_x C hr n y1 0 h R).1 hR))
def Ya_heedTests_t0 (f : Nat → Option Nat → Int32 → xH → Option (Int32 × xH)) (n : Nat) (o : Nat) (y1 : Option Nat) (x2 : Int32) (h : xH) : Option (Int32 × xH) := oel (y1) (some (0, h)) (fun a1 => f 7 (some (a1)) ((0 : Int32)) h)
def Ya_heedTests_t7 (f : Nat → Option Nat → Int32 → xH → Option (Int32 × xH)) (n : Nat) (o : Nat) (y1 : Option Nat) (x2 : Int32) (h : xH) : Option (Int32 × xH) := obd y1 (fun a3 => obd (gi h (a3) 7 6) (fun u4 => (if u4 ≤ x2 then some (0, h) else (if (3 : Int32) ≤ x2 then some (0, h) else obd (gq h (a3) 7 4) (fun w11 => obd w11 (fun a16 => obd (ai h (a16) 0 (x2)) (fun u17 => obd (gq h (a3) 7 4) (fun w24 => obd w24 (fun a29 => obd (ai h (a29) 0 (x2)) (fun u30 => (if (u17) / ((4 : Int32)) = 0 then obd (gq h (a3) 7 5) (fun w38 => obd w38 (fun a43 => obd (ai h (a43) 0 (x2)) (fun u44 => (if kc h (o) 3 = true then obd (Ya_heed_f n (o) (((u17) / ((4 : Int32))) + ((u30) - (u30) / ((4 : Int32)) * ((4 : Int32)))) (u44) h) (fun r51 => f 7 (some (a3)) (x2 + 1) r51.2) else none)))) else (if (u30) - (u30) / ((4 : Int32)) * ((4 : Int32)) = 0 then obd (gq h (a3) 7 5) (fun w56 => obd w56 (fun a61 => obd (ai h (a61) 0 (x2)) (fun u62 => (if kc h (o) 3 = true then obd (Ya_heed_f n (o) (((u17) / ((4 : Int32))) + ((u30) - (u30) / ((4 : Int32)) * ((4 : Int32)))) (u62) h) (fun r69 => f 7 (some (a3)) (x2 + 1) r69.2) else none)))) else obd (pf h (o) 3 8 (.int ((0 : Int32)))) (fun h73 => f 7 (some (a3)) (x2 + 1) h73)))))))))))))
def Ya_heedTests_f : Nat → Nat → Nat → Option Nat → Int32 → xH → Option (Int32 × xH)
  | 0 => fun _ _ _ _ _ => none
  | n + 1 => fun p o y1 x2 h => if p = 0 then Ya_heedTests_t0 (fun p y1 x2 h => Ya_heedTests_f n p o y1 x2 h) n o y1 x2 h else if p = 7 then Ya_heedTests_t7 (fun p y1 x2 h => Ya_heedTests_f n p o y1 x2 h) n o y1 x2 h else none
theorem Ya_heedTests_e0 (n : Nat) (o : Nat) (y1 : Option Nat) (x2 : Int32) (h : xH) : Ya_heedTests_f (n + 1) 0 o y1 x2 h = Ya_heedTests_t0 (fun p y1 x2 h => Ya_heedTests_f n p o y1 x2 h) n o y1 x2 h := by
  show (if 0 = 0 then Ya_heedTests_t0 (fun p y1 x2 h => Ya_heedTests_f n p o y1 x2 h) n o y1 x2 h else if 0 = 7 then Ya_heedTests_t7 (fun p y1 x2 h => Ya_heedTests_f n p o y1 x2 h) n o y1 x2 h else none) = _
  rw [if_pos rfl]
theorem Ya_heedTests_e7 (n : Nat) (o : Nat) (y1 : Option Nat) (x2 : Int32) (h : xH) : Ya_heedTests_f (n + 1) 7 o y1 x2 h = Ya_heedTests_t7 (fun p y1 x2 h => Ya_heedTests_f n p o y1 x2 h) n o y1 x2 h := by
  show (if 7 = 0 then Ya_heedTests_t0 (fun p y1 x2 h => Ya_heedTests_f n p o y1 x2 h) n o y1 x2 h else if 7 = 7 then Ya_heedTests_t7 (fun p y1 x2 h => Ya_heedTests_f n p o y1 x2 h) n o y1 x2 h else none) = _
  rw [if_neg (by decide), if_pos rfl]
set_option maxRecDepth 100000 in
set_option maxHeartbeats 8000000 in
theorem Ya_heedTests_x {F : xF} {G : xG} {B sz : Nat} {o : Nat} (C : xC F G B cYa_heedTests RYa 5 2 43 0 0) (hr : (xFM F).sig.returnType = none) : ∀ (n : Nat) (y1 : Option Nat) (x2 : Int32) (h : xH) (R : Int32 × xH), (Ya_heedTests_f n 0 o y1 x2 h = some R → X F G B (xZ F G B (kP none R.2 sz) 0 0) 5 h sz 0 0 0 [(0, .ref (o)), (1, va_rf (y1))] []) ∧ (Ya_heedTests_f n 7 o y1 x2 h = some R → X F G B (xZ F G B (kP none R.2 sz) 0 0) 5 h sz 0 0 7 [(0, .ref (o)), (1, va_rf (y1)), (2, .int (x2))] []) := by
  intro n
  induction n with
  | zero => exact fun _ _ _ _ => ⟨(fun hR => nomatch (show (none : Option _) = some _ from hR)), (fun hR => nomatch (show (none : Option _) = some _ from hR))⟩
  | succ n ih =>
    intro y1 x2 h R
    refine ⟨fun hR => ?_, fun hR => ?_⟩
    · rw [Ya_heedTests_e0] at hR
      unfold Ya_heedTests_t0 at hR
      refine X_aload_nq C dYa_heedTests_0 rfl ?_
      refine X_ifnonnullq (tgt := 5) C dYa_heedTests_1 (by decide) (fun a1 e2 => ?_) (fun e2 => ?_)
      · subst e2
        rw [oel_s] at hR
        refine X_iconst (v := 0) C dYa_heedTests_5 rfl ?_
        refine X_istore_n (lv' := [(2, .int ((0 : Int32))), (0, .ref (o)), (1, .ref (a1))]) C dYa_heedTests_6 (by decide) rfl ?_
        refine X_sub (lv' := [(0, .ref (o)), (1, va_rf ((some (a1)))), (2, .int ((0 : Int32)))]) [1, 2, 0] rfl ?_
        exact (ih (some (a1)) ((0 : Int32)) _ _).2 hR
      · subst e2
        rw [oel_n] at hR
        rw [← Option.some.inj hR]
        exact X_vret C hr (Nat.le_refl _) (Nat.le_refl _) dYa_heedTests_4 ⟨rfl, rfl, rfl⟩
    · rw [Ya_heedTests_e7] at hR
      unfold Ya_heedTests_t7 at hR
      refine X_iload_n C dYa_heedTests_7 rfl ?_
      refine X_aload_nq C dYa_heedTests_8 rfl ?_
      have hq := o_bind hR
      clear hR
      obtain ⟨a3, rfl, hR⟩ := hq
      have hq := o_bind hR
      clear hR
      obtain ⟨u4, hx8, hR⟩ := hq
      obtain ⟨fs5, he6, hv7⟩ := gi_e hx8
      refine X_get (k := 6) C oWa fwYa_152 he6 hv7 dYa_heedTests_9 ?_
      refine X_icmp_ge (tgt := 76) C dYa_heedTests_12 (by decide) (fun c9 => ?_) (fun c9 => ?_)
      · rw [if_pos c9] at hR
        rw [← Option.some.inj hR]
        exact X_vret C hr (Nat.le_refl _) (Nat.le_refl _) dYa_heedTests_76 ⟨rfl, rfl, rfl⟩
      · rw [if_neg c9] at hR
        refine X_iload_n C dYa_heedTests_15 rfl ?_
        refine X_iconst (v := 3) C dYa_heedTests_16 rfl ?_
        refine X_icmp_ge (tgt := 76) C dYa_heedTests_17 (by decide) (fun c10 => ?_) (fun c10 => ?_)
        · rw [if_pos c10] at hR
          rw [← Option.some.inj hR]
          exact X_vret C hr (Nat.le_refl _) (Nat.le_refl _) dYa_heedTests_76 ⟨rfl, rfl, rfl⟩
        · rw [if_neg c10] at hR
          refine X_aload_n C dYa_heedTests_20 rfl ?_
          have hq := o_bind hR
          clear hR
          obtain ⟨w11, hx15, hR⟩ := hq
          obtain ⟨fs12, he13, hv14⟩ := gq_e hx15
          refine X_get (k := 4) C oWa fwYa_157 he13 hv14 dYa_heedTests_21 ?_
          refine X_iload_n C dYa_heedTests_24 rfl ?_
          have hq := o_bind hR
          clear hR
          obtain ⟨a16, rfl, hR⟩ := hq
          have hq := o_bind hR
          clear hR
          obtain ⟨u17, hx18, hR⟩ := hq
          obtain ⟨n19, f20, he21, hi22, e23⟩ := ai_e hx18
          refine X_iald C rfl he21 hi22 dYa_heedTests_25 ?_
          rw [← e23]
          refine X_iconst (v := 4) C dYa_heedTests_26 rfl ?_
          refine X_idiv C dYa_heedTests_27 (by decide) ?_
          refine X_istore_n (lv' := [(3, .int ((u17) / ((4 : Int32)))), (0, .ref (o)), (1, .ref (a3)), (2, .int (x2))]) C dYa_heedTests_28 (by decide) rfl ?_
          refine X_aload_n C dYa_heedTests_29 rfl ?_
          have hq := o_bind hR
          clear hR
          obtain ⟨w24, hx28, hR⟩ := hq
          obtain ⟨fs25, he26, hv27⟩ := gq_e hx28
          refine X_get (k := 4) C oWa fwYa_157 he26 hv27 dYa_heedTests_30 ?_
          refine X_iload_n C dYa_heedTests_33 rfl ?_
          have hq := o_bind hR
          clear hR
          obtain ⟨a29, rfl, hR⟩ := hq
          have hq := o_bind hR
          clear hR
          obtain ⟨u30, hx31, hR⟩ := hq
          obtain ⟨n32, f33, he34, hi35, e36⟩ := ai_e hx31
          refine X_iald C rfl he34 hi35 dYa_heedTests_34 ?_
          rw [← e36]
          refine X_iconst (v := 4) C dYa_heedTests_35 rfl ?_
          refine X_irem C dYa_heedTests_36 (by decide) ?_
          refine X_istore (lv' := [(4, .int ((u30) - (u30) / ((4 : Int32)) * ((4 : Int32)))), (3, .int ((u17) / ((4 : Int32)))), (0, .ref (o)), (1, .ref (a3)), (2, .int (x2))]) C dYa_heedTests_37 (by decide) rfl ?_
          refine X_iload_n C dYa_heedTests_39 rfl ?_
          refine X_if_eq (tgt := 56) C dYa_heedTests_40 (by decide) (fun c37 => ?_) (fun c37 => ?_)
          · rw [if_pos c37] at hR
            refine X_aload_n C dYa_heedTests_56 rfl ?_
            refine X_iload_n C dYa_heedTests_57 rfl ?_
            refine X_iload C dYa_heedTests_58 rfl ?_
            refine X_iadd C dYa_heedTests_60 ?_
            refine X_aload_n C dYa_heedTests_61 rfl ?_
            have hq := o_bind hR
            clear hR
            obtain ⟨w38, hx42, hR⟩ := hq
            obtain ⟨fs39, he40, hv41⟩ := gq_e hx42
            refine X_get (k := 5) C oWa fwYa_160 he40 hv41 dYa_heedTests_62 ?_
            refine X_iload_n C dYa_heedTests_65 rfl ?_
            have hq := o_bind hR
            clear hR
            obtain ⟨a43, rfl, hR⟩ := hq
            have hq := o_bind hR
            clear hR
            obtain ⟨u44, hx45, hR⟩ := hq
            obtain ⟨n46, f47, he48, hi49, e50⟩ := ai_e hx45
            refine X_iald C rfl he48 hi49 dYa_heedTests_66 ?_
            rw [← e50]
            have hq := o_if hR
            clear hR
            obtain ⟨k52, hR⟩ := hq
            obtain ⟨fs53, he54⟩ := kc_e k52
            have hq := o_bind hR
            clear hR
            obtain ⟨r51, hr51, hR⟩ := hq
            refine X_callVk (As := [.int (((u17) / ((4 : Int32))) + ((u30) - (u30) / ((4 : Int32)) * ((4 : Int32)))), .int (u44)]) (rest := []) C (Ya_heed_c hr51) wYa_148 ⟨by decide, by decide⟩ ⟨Nat.le_refl _, Nat.le_refl _⟩ he54 oYa.2.1 rfl rfl (Nat.le_of_ble_eq_true rfl) dYa_heedTests_67 ?_
            show X F G B _ 5 (r51.2) _ _ _ _ _ []
            refine X_iinc (v := x2 + 1) (lv' := [(2, .int (x2 + 1)), (4, .int ((u30) - (u30) / ((4 : Int32)) * ((4 : Int32)))), (3, .int ((u17) / ((4 : Int32)))), (0, .ref (o)), (1, .ref (a3))]) C dYa_heedTests_70 rfl rfl (by decide) rfl ?_
            refine X_goto (tgt := 7) C dYa_heedTests_73 (by decide) ?_
            refine X_sub (lv' := [(0, .ref (o)), (1, va_rf ((some (a3)))), (2, .int (x2 + 1))]) [3, 4, 0] rfl ?_
            exact (ih (some (a3)) (x2 + 1) _ _).2 hR
          · rw [if_neg c37] at hR
            refine X_iload C dYa_heedTests_43 rfl ?_
            refine X_if_eq (tgt := 56) C dYa_heedTests_45 (by decide) (fun c55 => ?_) (fun c55 => ?_)
            · rw [if_pos c55] at hR
              refine X_aload_n C dYa_heedTests_56 rfl ?_
              refine X_iload_n C dYa_heedTests_57 rfl ?_
              refine X_iload C dYa_heedTests_58 rfl ?_
              refine X_iadd C dYa_heedTests_60 ?_
              refine X_aload_n C dYa_heedTests_61 rfl ?_
              have hq := o_bind hR
              clear hR
              obtain ⟨w56, hx60, hR⟩ := hq
              obtain ⟨fs57, he58, hv59⟩ := gq_e hx60
              refine X_get (k := 5) C oWa fwYa_160 he58 hv59 dYa_heedTests_62 ?_
              refine X_iload_n C dYa_heedTests_65 rfl ?_
              have hq := o_bind hR
              clear hR
              obtain ⟨a61, rfl, hR⟩ := hq
              have hq := o_bind hR
              clear hR
              obtain ⟨u62, hx63, hR⟩ := hq
              obtain ⟨n64, f65, he66, hi67, e68⟩ := ai_e hx63
              refine X_iald C rfl he66 hi67 dYa_heedTests_66 ?_
              rw [← e68]
              have hq := o_if hR
              clear hR
              obtain ⟨k70, hR⟩ := hq
              obtain ⟨fs71, he72⟩ := kc_e k70
              have hq := o_bind hR
              clear hR
              obtain ⟨r69, hr69, hR⟩ := hq
              refine X_callVk (As := [.int (((u17) / ((4 : Int32))) + ((u30) - (u30) / ((4 : Int32)) * ((4 : Int32)))), .int (u62)]) (rest := []) C (Ya_heed_c hr69) wYa_148 ⟨by decide, by decide⟩ ⟨Nat.le_refl _, Nat.le_refl _⟩ he72 oYa.2.1 rfl rfl (Nat.le_of_ble_eq_true rfl) dYa_heedTests_67 ?_
              show X F G B _ 5 (r69.2) _ _ _ _ _ []
              refine X_iinc (v := x2 + 1) (lv' := [(2, .int (x2 + 1)), (4, .int ((u30) - (u30) / ((4 : Int32)) * ((4 : Int32)))), (3, .int ((u17) / ((4 : Int32)))), (0, .ref (o)), (1, .ref (a3))]) C dYa_heedTests_70 rfl rfl (by decide) rfl ?_
              refine X_goto (tgt := 7) C dYa_heedTests_73 (by decide) ?_
              refine X_sub (lv' := [(0, .ref (o)), (1, va_rf ((some (a3)))), (2, .int (x2 + 1))]) [3, 4, 0] rfl ?_
              exact (ih (some (a3)) (x2 + 1) _ _).2 hR
            · rw [if_neg c55] at hR
              refine X_aload_n C dYa_heedTests_48 rfl ?_
              refine X_iconst (v := 0) C dYa_heedTests_49 rfl ?_
              have hq := o_bind hR
              clear hR
              obtain ⟨h73, hh74, hR⟩ := hq
              obtain ⟨fs75, he76, hl77, e78⟩ := pf_e hh74
              refine X_put (k := 8) C oYa fwYa_23 rfl he76 rfl rfl hl77 dYa_heedTests_50 ?_
              rw [← e78]
              refine X_goto (tgt := 70) C dYa_heedTests_53 (by decide) ?_
              refine X_iinc (v := x2 + 1) (lv' := [(2, .int (x2 + 1)), (4, .int ((u30) - (u30) / ((4 : Int32)) * ((4 : Int32)))), (3, .int ((u17) / ((4 : Int32)))), (0, .ref (o)), (1, .ref (a3))]) C dYa_heedTests_70 rfl rfl (by decide) rfl ?_
              refine X_goto (tgt := 7) C dYa_heedTests_73 (by decide) ?_
              refine X_sub (lv' := [(0, .ref (o)), (1, va_rf ((some (a3)))), (2, .int (x2 + 1))]) [3, 4, 0] rfl ?_
              exact (ih (some (a3)) (x2 + 1) _ _).2 hR
theorem Ya_heedTests_c {l : Launch} {G : xG} {B sz : Nat} {o : Nat} {n : Nat} {y1 : Option Nat} {h : xH} {R : Int32 × xH} (hR : Ya_heedTests_f n 0 o y1 0 h = some R) : xCon l yYa_heedTests cYa_heedTests 5 none 2 43 0 0 G B [.ref (o), va_rf (y1)] h sz (kP none R.2 sz) := xCon.of (by decide) (by simp [lg_sl, rf_cat, cat_i, cat_r, cat_l]) (fun F e C hr hnm => X_sub (lv' := [(0, .ref (o)), (1, va_rf (y1))]) [0, 1] (by simp [lv_args, lv_pick, rf_cat, cat_i, cat_r, cat_l]) ((Ya_heedTests_x C hr n y1 0 h R).1 hR))
def Ya_findGreatest_t0 (f : Nat → Int32 → Int32 → xH → Option (Int32 × xH)) (n : Nat) (o : Nat) (x1 : Int32) (x2 : Int32) (h : xH) : Option (Int32 × xH) := obd (gq h (o) 3 9) (fun w1 => obd (J7_fill_53178_f n 0 (w1) ((0 : Int32)) 0 0 h) (fun r6 => obd (pf r6.2 (o) 3 8 (.int ((1 : Int32)))) (fun h7 => f 15 ((0 : Int32)) 0 h7)))
def Ya_findGreatest_t15 (f : Nat → Int32 → Int32 → xH → Option (Int32 × xH)) (n : Nat) (o : Nat) (x1 : Int32) (x2 : Int32) (h : xH) : Option (Int32 × xH) := obd (gi h (o) 3 1) (fun u13 => (if u13 ≤ x1 then some (0, h) else f 25 (x1) ((0 : Int32)) h))
def Ya_findGreatest_t25 (f : Nat → Int32 → Int32 → xH → Option (Int32 × xH)) (n : Nat) (o : Nat) (x1 : Int32) (x2 : Int32) (h : xH) : Option (Int32 × xH) := (if (6 : Int32) ≤ x2 then f 49 (x1) ((0 : Int32)) h else (if kc h (o) 3 = true then obd (Ya_placeAt_f n (o) (x1) (x2) h) (fun r20 => bnd (r20.1) (fun w21 => (if kc r20.2 (o) 3 = true then obd (Ya_heedLimits_f n 0 (o) (w21) 0 r20.2) (fun r23 => f 25 (x1) (x2 + 1) r23.2) else none))) else none))
def Ya_findGreatest_t49 (f : Nat → Int32 → Int32 → xH → Option (Int32 × xH)) (n : Nat) (o : Nat) (x1 : Int32) (x2 : Int32) (h : xH) : Option (Int32 × xH) := (if (12 : Int32) ≤ x2 then f 15 (x1 + 1) 0 h else (if kc h (o) 3 = true then obd (Ya_wayAt_f n (o) (x1) (x2) h) (fun r31 => bnd (r31.1) (fun w32 => (if kc r31.2 (o) 3 = true then obd (Ya_heedTests_f n 0 (o) (w32) 0 r31.2) (fun r34 => f 49 (x1) (x2 + 1) r34.2) else none))) else none))
def Ya_findGreatest_f : Nat → Nat → Nat → Int32 → Int32 → xH → Option (Int32 × xH)
  | 0 => fun _ _ _ _ _ => none
  | n + 1 => fun p o x1 x2 h => if p = 0 then Ya_findGreatest_t0 (fun p x1 x2 h => Ya_findGreatest_f n p o x1 x2 h) n o x1 x2 h else if p = 15 then Ya_findGreatest_t15 (fun p x1 x2 h => Ya_findGreatest_f n p o x1 x2 h) n o x1 x2 h else if p = 25 then Ya_findGreatest_t25 (fun p x1 x2 h => Ya_findGreatest_f n p o x1 x2 h) n o x1 x2 h else if p = 49 then Ya_findGreatest_t49 (fun p x1 x2 h => Ya_findGreatest_f n p o x1 x2 h) n o x1 x2 h else none
theorem Ya_findGreatest_e0 (n : Nat) (o : Nat) (x1 : Int32) (x2 : Int32) (h : xH) : Ya_findGreatest_f (n + 1) 0 o x1 x2 h = Ya_findGreatest_t0 (fun p x1 x2 h => Ya_findGreatest_f n p o x1 x2 h) n o x1 x2 h := by
  show (if 0 = 0 then Ya_findGreatest_t0 (fun p x1 x2 h => Ya_findGreatest_f n p o x1 x2 h) n o x1 x2 h else if 0 = 15 then Ya_findGreatest_t15 (fun p x1 x2 h => Ya_findGreatest_f n p o x1 x2 h) n o x1 x2 h else if 0 = 25 then Ya_findGreatest_t25 (fun p x1 x2 h => Ya_findGreatest_f n p o x1 x2 h) n o x1 x2 h else if 0 = 49 then Ya_findGreatest_t49 (fun p x1 x2 h => Ya_findGreatest_f n p o x1 x2 h) n o x1 x2 h else none) = _
  rw [if_pos rfl]
theorem Ya_findGreatest_e15 (n : Nat) (o : Nat) (x1 : Int32) (x2 : Int32) (h : xH) : Ya_findGreatest_f (n + 1) 15 o x1 x2 h = Ya_findGreatest_t15 (fun p x1 x2 h => Ya_findGreatest_f n p o x1 x2 h) n o x1 x2 h := by
  show (if 15 = 0 then Ya_findGreatest_t0 (fun p x1 x2 h => Ya_findGreatest_f n p o x1 x2 h) n o x1 x2 h else if 15 = 15 then Ya_findGreatest_t15 (fun p x1 x2 h => Ya_findGreatest_f n p o x1 x2 h) n o x1 x2 h else if 15 = 25 then Ya_findGreatest_t25 (fun p x1 x2 h => Ya_findGreatest_f n p o x1 x2 h) n o x1 x2 h else if 15 = 49 then Ya_findGreatest_t49 (fun p x1 x2 h => Ya_findGreatest_f n p o x1 x2 h) n o x1 x2 h else none) = _
  rw [if_neg (by decide), if_pos rfl]
theorem Ya_findGreatest_e25 (n : Nat) (o : Nat) (x1 : Int32) (x2 : Int32) (h : xH) : Ya_findGreatest_f (n + 1) 25 o x1 x2 h = Ya_findGreatest_t25 (fun p x1 x2 h => Ya_findGreatest_f n p o x1 x2 h) n o x1 x2 h := by
  show (if 25 = 0 then Ya_findGreatest_t0 (fun p x1 x2 h => Ya_findGreatest_f n p o x1 x2 h) n o x1 x2 h else if 25 = 15 then Ya_findGreatest_t15 (fun p x1 x2 h => Ya_findGreatest_f n p o x1 x2 h) n o x1 x2 h else if 25 = 25 then Ya_findGreatest_t25 (fun p x1 x2 h => Ya_findGreatest_f n p o x1 x2 h) n o x1 x2 h else if 25 = 49 then Ya_findGreatest_t49 (fun p x1 x2 h => Ya_findGreatest_f n p o x1 x2 h) n o x1 x2 h else none) = _
  rw [if_neg (by decide), if_neg (by decide), if_pos rfl]
theorem Ya_findGreatest_e49 (n : Nat) (o : Nat) (x1 : Int32) (x2 : Int32) (h : xH) : Ya_findGreatest_f (n + 1) 49 o x1 x2 h = Ya_findGreatest_t49 (fun p x1 x2 h => Ya_findGreatest_f n p o x1 x2 h) n o x1 x2 h := by
  show (if 49 = 0 then Ya_findGreatest_t0 (fun p x1 x2 h => Ya_findGreatest_f n p o x1 x2 h) n o x1 x2 h else if 49 = 15 then Ya_findGreatest_t15 (fun p x1 x2 h => Ya_findGreatest_f n p o x1 x2 h) n o x1 x2 h else if 49 = 25 then Ya_findGreatest_t25 (fun p x1 x2 h => Ya_findGreatest_f n p o x1 x2 h) n o x1 x2 h else if 49 = 49 then Ya_findGreatest_t49 (fun p x1 x2 h => Ya_findGreatest_f n p o x1 x2 h) n o x1 x2 h else none) = _
  rw [if_neg (by decide), if_neg (by decide), if_neg (by decide), if_pos rfl]
set_option maxRecDepth 100000 in
set_option maxHeartbeats 8000000 in
theorem Ya_findGreatest_x {F : xF} {G : xG} {B sz : Nat} {o : Nat} (C : xC F G B cYa_findGreatest RYa 3 3 67 0 0) (hr : (xFM F).sig.returnType = none) : ∀ (n : Nat) (x1 : Int32) (x2 : Int32) (h : xH) (R : Int32 × xH), (Ya_findGreatest_f n 0 o x1 x2 h = some R → X F G B (xZ F G B (kP none R.2 sz) 0 0) 3 h sz 0 0 0 [(0, .ref (o))] []) ∧ (Ya_findGreatest_f n 15 o x1 x2 h = some R → X F G B (xZ F G B (kP none R.2 sz) 0 0) 3 h sz 0 0 15 [(0, .ref (o)), (1, .int (x1))] []) ∧ (Ya_findGreatest_f n 25 o x1 x2 h = some R → X F G B (xZ F G B (kP none R.2 sz) 0 0) 3 h sz 0 0 25 [(0, .ref (o)), (1, .int (x1)), (2, .int (x2))] []) ∧ (Ya_findGreatest_f n 49 o x1 x2 h = some R → X F G B (xZ F G B (kP none R.2 sz) 0 0) 3 h sz 0 0 49 [(0, .ref (o)), (1, .int (x1)), (2, .int (x2))] []) := by
  intro n
  induction n with
  | zero => exact fun _ _ _ _ => ⟨(fun hR => nomatch (show (none : Option _) = some _ from hR)), (fun hR => nomatch (show (none : Option _) = some _ from hR)), (fun hR => nomatch (show (none : Option _) = some _ from hR)), (fun hR => nomatch (show (none : Option _) = some _ from hR))⟩
  | succ n ih =>
    intro x1 x2 h R
    refine ⟨fun hR => ?_, fun hR => ?_, fun hR => ?_, fun hR => ?_⟩
    · rw [Ya_findGreatest_e0] at hR
      unfold Ya_findGreatest_t0 at hR
      refine X_aload_n C dYa_findGreatest_0 rfl ?_
      have hq := o_bind hR
      clear hR
      obtain ⟨w1, hx5, hR⟩ := hq
      obtain ⟨fs2, he3, hv4⟩ := gq_e hx5
      refine X_get (k := 9) C oYa fwYa_27 he3 hv4 dYa_findGreatest_1 ?_
      refine X_iconst (v := 0) C dYa_findGreatest_4 rfl ?_
      have hq := o_bind hR
      clear hR
      obtain ⟨r6, hr6, hR⟩ := hq
      refine X_callSk (As := [va_rf (w1), .int ((0 : Int32))]) (rest := []) C (J7_fill_53178_c hr6) wYa_119 ⟨by decide, by decide⟩ ⟨Nat.le_refl _, Nat.le_refl _⟩ rfl rfl (Nat.le_of_ble_eq_true rfl) dYa_findGreatest_5 ?_
      show X F G B _ 3 (r6.2) _ _ _ _ _ []
      refine X_aload_n C dYa_findGreatest_8 rfl ?_
      refine X_iconst (v := 1) C dYa_findGreatest_9 rfl ?_
      have hq := o_bind hR
      clear hR
      obtain ⟨h7, hh8, hR⟩ := hq
      obtain ⟨fs9, he10, hl11, e12⟩ := pf_e hh8
      refine X_put (k := 8) C oYa fwYa_23 rfl he10 rfl rfl hl11 dYa_findGreatest_10 ?_
      rw [← e12]
      refine X_iconst (v := 0) C dYa_findGreatest_13 rfl ?_
      refine X_istore_n (lv' := [(1, .int ((0 : Int32))), (0, .ref (o))]) C dYa_findGreatest_14 (by decide) rfl ?_
      refine X_sub (lv' := [(0, .ref (o)), (1, .int ((0 : Int32)))]) [1, 0] rfl ?_
      exact (ih ((0 : Int32)) 0 _ _).2.1 hR
    · rw [Ya_findGreatest_e15] at hR
      unfold Ya_findGreatest_t15 at hR
      refine X_iload_n C dYa_findGreatest_15 rfl ?_
      refine X_aload_n C dYa_findGreatest_16 rfl ?_
      have hq := o_bind hR
      clear hR
      obtain ⟨u13, hx17, hR⟩ := hq
      obtain ⟨fs14, he15, hv16⟩ := gi_e hx17
      refine X_get (k := 1) C oYa fwYa_43 he15 hv16 dYa_findGreatest_17 ?_
      refine X_icmp_ge (tgt := 77) C dYa_findGreatest_20 (by decide) (fun c18 => ?_) (fun c18 => ?_)
      · rw [if_pos c18] at hR
        rw [← Option.some.inj hR]
        exact X_vret C hr (Nat.le_refl _) (Nat.le_refl _) dYa_findGreatest_77 ⟨rfl, rfl, rfl⟩
      · rw [if_neg c18] at hR
        refine X_iconst (v := 0) C dYa_findGreatest_23 rfl ?_
        refine X_istore_n (lv' := [(2, .int ((0 : Int32))), (0, .ref (o)), (1, .int (x1))]) C dYa_findGreatest_24 (by decide) rfl ?_
        refine X_sub (lv' := [(0, .ref (o)), (1, .int (x1)), (2, .int ((0 : Int32)))]) [1, 2, 0] rfl ?_
        exact (ih (x1) ((0 : Int32)) _ _).2.2.1 hR
    · rw [Ya_findGreatest_e25] at hR
      unfold Ya_findGreatest_t25 at hR
      refine X_iload_n C dYa_findGreatest_25 rfl ?_
      refine X_bipush (v := 6) C dYa_findGreatest_26 (by decide) ?_
      refine X_icmp_ge (tgt := 47) C dYa_findGreatest_28 (by decide) (fun c19 => ?_) (fun c19 => ?_)
      · rw [if_pos c19] at hR
        refine X_iconst (v := 0) C dYa_findGreatest_47 rfl ?_
        refine X_istore_n (lv' := [(2, .int ((0 : Int32))), (0, .ref (o)), (1, .int (x1))]) C dYa_findGreatest_48 (by decide) rfl ?_
        refine X_sub (lv' := [(0, .ref (o)), (1, .int (x1)), (2, .int ((0 : Int32)))]) [1, 2, 0] rfl ?_
        exact (ih (x1) ((0 : Int32)) _ _).2.2.2 hR
      · rw [if_neg c19] at hR
        refine X_aload_n C dYa_findGreatest_31 rfl ?_
        refine X_aload_n C dYa_findGreatest_32 rfl ?_
        refine X_iload_n C dYa_findGreatest_33 rfl ?_
        refine X_iload_n C dYa_findGreatest_34 rfl ?_
        have hq := o_if hR
        clear hR
        obtain ⟨k27, hR⟩ := hq
        obtain ⟨fs28, he29⟩ := kc_e k27
        have hq := o_bind hR
        clear hR
        obtain ⟨r20, hr20, hR⟩ := hq
        refine X_callVk (As := [.int (x1), .int (x2)]) (rest := [.ref (o)]) C (Ya_placeAt_c hr20) wYa_68 ⟨by decide, by decide⟩ ⟨Nat.le_refl _, Nat.le_refl _⟩ he29 oYa.2.1 rfl rfl (Nat.le_of_ble_eq_true rfl) dYa_findGreatest_35 ?_
        show X F G B _ 3 (r20.2) _ _ _ _ _ [va_rf (r20.1), .ref (o)]
        have hq := b_bnd hR
        clear hR
        obtain ⟨w21, e22, hR⟩ := hq
        rw [← e22]
        have hq := o_if hR
        clear hR
        obtain ⟨k24, hR⟩ := hq
        obtain ⟨fs25, he26⟩ := kc_e k24
        have hq := o_bind hR
        clear hR
        obtain ⟨r23, hr23, hR⟩ := hq
        refine X_callVk (As := [va_rf (w21)]) (rest := []) C (Ya_heedLimits_c hr23) wYa_125 ⟨by decide, by decide⟩ ⟨Nat.le_refl _, Nat.le_refl _⟩ he26 oYa.2.1 rfl rfl (Nat.le_of_ble_eq_true rfl) dYa_findGreatest_38 ?_
        show X F G B _ 3 (r23.2) _ _ _ _ _ []
        refine X_iinc (v := x2 + 1) (lv' := [(2, .int (x2 + 1)), (0, .ref (o)), (1, .int (x1))]) C dYa_findGreatest_41 rfl rfl (by decide) rfl ?_
        refine X_goto (tgt := 25) C dYa_findGreatest_44 (by decide) ?_
        refine X_sub (lv' := [(0, .ref (o)), (1, .int (x1)), (2, .int (x2 + 1))]) [1, 2, 0] rfl ?_
        exact (ih (x1) (x2 + 1) _ _).2.2.1 hR
    · rw [Ya_findGreatest_e49] at hR
      unfold Ya_findGreatest_t49 at hR
      refine X_iload_n C dYa_findGreatest_49 rfl ?_
      refine X_bipush (v := 12) C dYa_findGreatest_50 (by decide) ?_
      refine X_icmp_ge (tgt := 71) C dYa_findGreatest_52 (by decide) (fun c30 => ?_) (fun c30 => ?_)
      · rw [if_pos c30] at hR
        refine X_iinc (v := x1 + 1) (lv' := [(1, .int (x1 + 1)), (0, .ref (o)), (2, .int (x2))]) C dYa_findGreatest_71 rfl rfl (by decide) rfl ?_
        refine X_goto (tgt := 15) C dYa_findGreatest_74 (by decide) ?_
        refine X_sub (lv' := [(0, .ref (o)), (1, .int (x1 + 1))]) [1, 0] rfl ?_
        exact (ih (x1 + 1) 0 _ _).2.1 hR
      · rw [if_neg c30] at hR
        refine X_aload_n C dYa_findGreatest_55 rfl ?_
        refine X_aload_n C dYa_findGreatest_56 rfl ?_
        refine X_iload_n C dYa_findGreatest_57 rfl ?_
        refine X_iload_n C dYa_findGreatest_58 rfl ?_
        have hq := o_if hR
        clear hR
        obtain ⟨k38, hR⟩ := hq
        obtain ⟨fs39, he40⟩ := kc_e k38
        have hq := o_bind hR
        clear hR
        obtain ⟨r31, hr31, hR⟩ := hq
        refine X_callVk (As := [.int (x1), .int (x2)]) (rest := [.ref (o)]) C (Ya_wayAt_c hr31) wYa_129 ⟨by decide, by decide⟩ ⟨Nat.le_refl _, Nat.le_refl _⟩ he40 oYa.2.1 rfl rfl (Nat.le_of_ble_eq_true rfl) dYa_findGreatest_59 ?_
        show X F G B _ 3 (r31.2) _ _ _ _ _ [va_rf (r31.1), .ref (o)]
        have hq := b_bnd hR
        clear hR
        obtain ⟨w32, e33, hR⟩ := hq
        rw [← e33]
        have hq := o_if hR
        clear hR
        obtain ⟨k35, hR⟩ := hq
        obtain ⟨fs36, he37⟩ := kc_e k35
        have hq := o_bind hR
        clear hR
        obtain ⟨r34, hr34, hR⟩ := hq
        refine X_callVk (As := [va_rf (w32)]) (rest := []) C (Ya_heedTests_c hr34) wYa_133 ⟨by decide, by decide⟩ ⟨Nat.le_refl _, Nat.le_refl _⟩ he37 oYa.2.1 rfl rfl (Nat.le_of_ble_eq_true rfl) dYa_findGreatest_62 ?_
        show X F G B _ 3 (r34.2) _ _ _ _ _ []
        refine X_iinc (v := x2 + 1) (lv' := [(2, .int (x2 + 1)), (0, .ref (o)), (1, .int (x1))]) C dYa_findGreatest_65 rfl rfl (by decide) rfl ?_
        refine X_goto (tgt := 49) C dYa_findGreatest_68 (by decide) ?_
        refine X_sub (lv' := [(0, .ref (o)), (1, .int (x1)), (2, .int (x2 + 1))]) [1, 2, 0] rfl ?_
        exact (ih (x1) (x2 + 1) _ _).2.2.2 hR
theorem Ya_findGreatest_c {l : Launch} {G : xG} {B sz : Nat} {o : Nat} {n : Nat} {h : xH} {R : Int32 × xH} (hR : Ya_findGreatest_f n 0 o 0 0 h = some R) : xCon l yYa_findGreatest cYa_findGreatest 3 none 3 67 0 0 G B [.ref (o)] h sz (kP none R.2 sz) := xCon.of (by decide) (by exact Nat.le_of_ble_eq_true rfl) (fun F e C hr hnm => X_sub (lv' := [(0, .ref (o))]) [0] rfl ((Ya_findGreatest_x C hr n 0 0 h R).1 hR))
def Zo_becomeAllZero_f (n : Nat) (o : Nat)  (h : xH) : Option (Int32 × xH) := obd (gq h (o) 1 1) (fun w1 => obd (J7_fill_53178_f n 0 (w1) ((1 : Int32)) 0 0 h) (fun r6 => obd (pf r6.2 (o) 1 2 (.int ((0 : Int32)))) (fun h7 => some (0, h7))))
set_option maxRecDepth 100000 in
set_option maxHeartbeats 8000000 in
theorem Zo_becomeAllZero_x {F : xF} {G : xG} {B sz : Nat} {o : Nat} (C : xC F G B cZo_becomeAllZero RZo 1 1 23 0 0) (hr : (xFM F).sig.returnType = none) {n : Nat} {h : xH} {R : Int32 × xH} (hR : Zo_becomeAllZero_f n o  h = some R) : X F G B (xZ F G B (kP none R.2 sz) 0 0) 1 h sz 0 0 0 [(0, .ref (o))] [] := by
  unfold Zo_becomeAllZero_f at hR
  refine X_aload_n C dZo_becomeAllZero_0 rfl ?_
  have hq := o_bind hR
  clear hR
  obtain ⟨w1, hx5, hR⟩ := hq
  obtain ⟨fs2, he3, hv4⟩ := gq_e hx5
  refine X_get (k := 1) C oZo fwZo_15 he3 hv4 dZo_becomeAllZero_1 ?_
  refine X_iconst (v := 1) C dZo_becomeAllZero_4 rfl ?_
  have hq := o_bind hR
  clear hR
  obtain ⟨r6, hr6, hR⟩ := hq
  refine X_callSk (As := [va_rf (w1), .int ((1 : Int32))]) (rest := []) C (J7_fill_53178_c hr6) wZo_19 ⟨by decide, by decide⟩ ⟨Nat.le_refl _, Nat.le_refl _⟩ rfl rfl (Nat.le_of_ble_eq_true rfl) dZo_becomeAllZero_5 ?_
  show X F G B _ 1 (r6.2) _ _ _ _ _ []
  refine X_aload_n C dZo_becomeAllZero_8 rfl ?_
  refine X_iconst (v := 0) C dZo_becomeAllZero_9 rfl ?_
  have hq := o_bind hR
  clear hR
  obtain ⟨h7, hh8, hR⟩ := hq
  obtain ⟨fs9, he10, hl11, e12⟩ := pf_e hh8
  refine X_put (k := 2) C oZo fwZo_26 rfl he10 rfl rfl hl11 dZo_becomeAllZero_10 ?_
  rw [← e12]
  rw [← Option.some.inj hR]
  exact X_vret C hr (Nat.le_refl _) (Nat.le_refl _) dZo_becomeAllZero_13 ⟨rfl, rfl, rfl⟩
theorem Zo_becomeAllZero_c {l : Launch} {G : xG} {B sz : Nat} {o : Nat} {n : Nat} {h : xH} {R : Int32 × xH} (hR : Zo_becomeAllZero_f n o  h = some R) : xCon l yZo_becomeAllZero cZo_becomeAllZero 1 none 1 23 0 0 G B [.ref (o)] h sz (kP none R.2 sz) := xCon.of (by decide) (by exact Nat.le_of_ble_eq_true rfl) (fun F e C hr hnm => X_sub (lv' := [(0, .ref (o))]) [0] rfl (Zo_becomeAllZero_x C hr hR))
def Zo_at_f (n : Nat) (o : Nat) (x1 : Int32) (x2 : Int32) (h : xH) : Option (Int32 × xH) := obd (gq h (o) 1 1) (fun w1 => obd (gi h (o) 1 0) (fun u6 => obd w1 (fun a11 => obd (ai h (a11) 0 (((x1) * (u6)) + (x2))) (fun u12 => some (u12, h)))))
set_option maxRecDepth 100000 in
set_option maxHeartbeats 8000000 in
theorem Zo_at_x {F : xF} {G : xG} {B sz : Nat} {o : Nat} (C : xC F G B cZo_at RZo 3 0 0 0 0) (hr : (xFM F).sig.returnType = (some .int)) {n : Nat} {x1 : Int32} {x2 : Int32} {h : xH} {R : Int32 × xH} (hR : Zo_at_f n o x1 x2 h = some R) : X F G B (xZ F G B (kP (some (.int R.1)) R.2 sz) 0 0) 3 h sz 0 0 0 [(0, .ref (o)), (1, .int (x1)), (2, .int (x2))] [] := by
  unfold Zo_at_f at hR
  refine X_aload_n C dZo_at_0 rfl ?_
  have hq := o_bind hR
  clear hR
  obtain ⟨w1, hx5, hR⟩ := hq
  obtain ⟨fs2, he3, hv4⟩ := gq_e hx5
  refine X_get (k := 1) C oZo fwZo_15 he3 hv4 dZo_at_1 ?_
  refine X_iload_n C dZo_at_4 rfl ?_
  refine X_aload_n C dZo_at_5 rfl ?_
  have hq := o_bind hR
  clear hR
  obtain ⟨u6, hx10, hR⟩ := hq
  obtain ⟨fs7, he8, hv9⟩ := gi_e hx10
  refine X_get (k := 0) C oZo fwZo_9 he8 hv9 dZo_at_6 ?_
  refine X_imul C dZo_at_9 ?_
  refine X_iload_n C dZo_at_10 rfl ?_
  refine X_iadd C dZo_at_11 ?_
  have hq := o_bind hR
  clear hR
  obtain ⟨a11, rfl, hR⟩ := hq
  have hq := o_bind hR
  clear hR
  obtain ⟨u12, hx13, hR⟩ := hq
  obtain ⟨n14, f15, he16, hi17, e18⟩ := ai_e hx13
  refine X_iald C rfl he16 hi17 dZo_at_12 ?_
  rw [← e18]
  rw [← Option.some.inj hR]
  exact X_iret C hr (Nat.le_refl _) (Nat.le_refl _) dZo_at_13 ⟨rfl, rfl, rfl⟩
theorem Zo_at_c {l : Launch} {G : xG} {B sz : Nat} {o : Nat} {n : Nat} {x1 : Int32} {x2 : Int32} {h : xH} {R : Int32 × xH} (hR : Zo_at_f n o x1 x2 h = some R) : xCon l yZo_at cZo_at 3 (some .int) 0 0 0 0 G B [.ref (o), .int (x1), .int (x2)] h sz (kP (some (.int R.1)) R.2 sz) := xCon.of (by decide) (by exact Nat.le_of_ble_eq_true rfl) (fun F e C hr hnm => X_sub (lv' := [(0, .ref (o)), (1, .int (x1)), (2, .int (x2))]) [0, 1, 2] rfl (Zo_at_x C hr hR))
def Zo_sum_f (n : Nat) (x0 : Int32) (x1 : Int32) (h : xH) : Option (Int32 × xH) := (if x0 = (1000000 : Int32) then some ((1000000 : Int32), h) else (if x1 = (1000000 : Int32) then some ((1000000 : Int32), h) else some (((x0) + (x1)) - (((x0) ||| (x1)) &&& ((1 : Int32))), h)))
set_option maxRecDepth 100000 in
set_option maxHeartbeats 8000000 in
theorem Zo_sum_x {F : xF} {G : xG} {B sz : Nat} (C : xC F G B cZo_sum RZo 2 0 0 0 0) (hr : (xFM F).sig.returnType = (some .int)) {n : Nat} {x0 : Int32} {x1 : Int32} {h : xH} {R : Int32 × xH} (hR : Zo_sum_f n x0 x1 h = some R) : X F G B (xZ F G B (kP (some (.int R.1)) R.2 sz) 0 0) 2 h sz 0 0 0 [(0, .int (x0)), (1, .int (x1))] [] := by
  unfold Zo_sum_f at hR
  refine X_iload_n C dZo_sum_0 rfl ?_
  refine X_ldc (v := 1000000) C kZo_25 dZo_sum_1 ?_
  refine X_icmp_eq (tgt := 12) C dZo_sum_3 (by decide) (fun c1 => ?_) (fun c1 => ?_)
  · rw [if_pos c1] at hR
    refine X_ldc (v := 1000000) C kZo_25 dZo_sum_12 ?_
    rw [← Option.some.inj hR]
    exact X_iret C hr (Nat.le_refl _) (Nat.le_refl _) dZo_sum_14 ⟨rfl, rfl, rfl⟩
  · rw [if_neg c1] at hR
    refine X_iload_n C dZo_sum_6 rfl ?_
    refine X_ldc (v := 1000000) C kZo_25 dZo_sum_7 ?_
    refine X_icmp_ne (tgt := 15) C dZo_sum_9 (by decide) (fun c2 => ?_) (fun c2 => ?_)
    · rw [if_neg c2] at hR
      refine X_iload_n C dZo_sum_15 rfl ?_
      refine X_iload_n C dZo_sum_16 rfl ?_
      refine X_iadd C dZo_sum_17 ?_
      refine X_iload_n C dZo_sum_18 rfl ?_
      refine X_iload_n C dZo_sum_19 rfl ?_
      refine X_ior C dZo_sum_20 ?_
      refine X_iconst (v := 1) C dZo_sum_21 rfl ?_
      refine X_iand C dZo_sum_22 ?_
      refine X_isub C dZo_sum_23 ?_
      rw [← Option.some.inj hR]
      exact X_iret C hr (Nat.le_refl _) (Nat.le_refl _) dZo_sum_24 ⟨rfl, rfl, rfl⟩
    · rw [if_pos c2] at hR
      refine X_ldc (v := 1000000) C kZo_25 dZo_sum_12 ?_
      rw [← Option.some.inj hR]
      exact X_iret C hr (Nat.le_refl _) (Nat.le_refl _) dZo_sum_14 ⟨rfl, rfl, rfl⟩
theorem Zo_sum_c {l : Launch} {G : xG} {B sz : Nat} {n : Nat} {x0 : Int32} {x1 : Int32} {h : xH} {R : Int32 × xH} (hR : Zo_sum_f n x0 x1 h = some R) : xCon l yZo_sum cZo_sum 2 (some .int) 0 0 0 0 G B [.int (x0), .int (x1)] h sz (kP (some (.int R.1)) R.2 sz) := xCon.of (by decide) (by exact Nat.le_of_ble_eq_true rfl) (fun F e C hr hnm => X_sub (lv' := [(0, .int (x0)), (1, .int (x1))]) [0, 1] rfl (Zo_sum_x C hr hR))
def Zo_squeeze_t0 (f : Nat → Int32 → Int32 → Int32 → Int32 → Int32 → Int32 → xH → Option (Int32 × xH)) (n : Nat) (o : Nat) (x1 : Int32) (x2 : Int32) (x3 : Int32) (x4 : Int32) (x5 : Int32) (x6 : Int32) (h : xH) : Option (Int32 × xH) := obd (gi h (o) 1 2) (fun u1 => (if u1 = 0 then (if kc h (o) 1 = true then obd (Zo_at_f n (o) (x1) (x2) h) (fun r7 => (if x3 < r7.1 then (if kc r7.2 (o) 1 = true then obd (Zo_at_f n (o) (x2) (x1) r7.2) (fun r9 => obd (Zo_sum_f n (x3) (r9.1) r9.2) (fun r10 => (if (1 : Int32) ≤ r10.1 then f 41 (x1) (x2) (x3) ((0 : Int32)) 0 0 r10.2 else obd (pf r10.2 (o) 1 2 (.int ((1 : Int32)))) (fun h12 => some (0, h12))))) else none) else some (0, r7.2))) else none) else some (0, h)))
def Zo_squeeze_t41 (f : Nat → Int32 → Int32 → Int32 → Int32 → Int32 → Int32 → xH → Option (Int32 × xH)) (n : Nat) (o : Nat) (x1 : Int32) (x2 : Int32) (x3 : Int32) (x4 : Int32) (x5 : Int32) (x6 : Int32) (h : xH) : Option (Int32 × xH) := obd (gi h (o) 1 0) (fun u24 => (if u24 ≤ x4 then some (0, h) else (if kc h (o) 1 = true then obd (Zo_at_f n (o) (x4) (x1) h) (fun r30 => obd (Zo_sum_f n (r30.1) (x3) r30.2) (fun r31 => f 66 (x1) (x2) (x3) (x4) (r31.1) ((0 : Int32)) r31.2)) else none)))
def Zo_squeeze_t66 (f : Nat → Int32 → Int32 → Int32 → Int32 → Int32 → Int32 → xH → Option (Int32 × xH)) (n : Nat) (o : Nat) (x1 : Int32) (x2 : Int32) (x3 : Int32) (x4 : Int32) (x5 : Int32) (x6 : Int32) (h : xH) : Option (Int32 × xH) := obd (gi h (o) 1 0) (fun u35 => (if u35 ≤ x6 then f 41 (x1) (x2) (x3) (x4 + 1) 0 0 h else (if x5 = (1000000 : Int32) then f 41 (x1) (x2) (x3) (x4 + 1) 0 0 h else obd (gq h (o) 1 1) (fun w42 => obd (gi h (o) 1 0) (fun u47 => (if kc h (o) 1 = true then obd (Zo_at_f n (o) (x4) (x6) h) (fun r52 => (if kc r52.2 (o) 1 = true then obd (Zo_at_f n (o) (x2) (x6) r52.2) (fun r53 => obd (Zo_sum_f n (x5) (r53.1) r53.2) (fun r54 => obd w42 (fun a55 => obd (pa r54.2 (a55) 0 (((x4) * (u47)) + (x6)) ((if r54.1 < r52.1 then r54.1 else r52.1))) (fun h56 => f 66 (x1) (x2) (x3) (x4) (x5) (x6 + 1) h56)))) else none)) else none))))))
def Zo_squeeze_f : Nat → Nat → Nat → Int32 → Int32 → Int32 → Int32 → Int32 → Int32 → xH → Option (Int32 × xH)
  | 0 => fun _ _ _ _ _ _ _ _ _ => none
  | n + 1 => fun p o x1 x2 x3 x4 x5 x6 h => if p = 0 then Zo_squeeze_t0 (fun p x1 x2 x3 x4 x5 x6 h => Zo_squeeze_f n p o x1 x2 x3 x4 x5 x6 h) n o x1 x2 x3 x4 x5 x6 h else if p = 41 then Zo_squeeze_t41 (fun p x1 x2 x3 x4 x5 x6 h => Zo_squeeze_f n p o x1 x2 x3 x4 x5 x6 h) n o x1 x2 x3 x4 x5 x6 h else if p = 66 then Zo_squeeze_t66 (fun p x1 x2 x3 x4 x5 x6 h => Zo_squeeze_f n p o x1 x2 x3 x4 x5 x6 h) n o x1 x2 x3 x4 x5 x6 h else none
theorem Zo_squeeze_e0 (n : Nat) (o : Nat) (x1 : Int32) (x2 : Int32) (x3 : Int32) (x4 : Int32) (x5 : Int32) (x6 : Int32) (h : xH) : Zo_squeeze_f (n + 1) 0 o x1 x2 x3 x4 x5 x6 h = Zo_squeeze_t0 (fun p x1 x2 x3 x4 x5 x6 h => Zo_squeeze_f n p o x1 x2 x3 x4 x5 x6 h) n o x1 x2 x3 x4 x5 x6 h := by
  show (if 0 = 0 then Zo_squeeze_t0 (fun p x1 x2 x3 x4 x5 x6 h => Zo_squeeze_f n p o x1 x2 x3 x4 x5 x6 h) n o x1 x2 x3 x4 x5 x6 h else if 0 = 41 then Zo_squeeze_t41 (fun p x1 x2 x3 x4 x5 x6 h => Zo_squeeze_f n p o x1 x2 x3 x4 x5 x6 h) n o x1 x2 x3 x4 x5 x6 h else if 0 = 66 then Zo_squeeze_t66 (fun p x1 x2 x3 x4 x5 x6 h => Zo_squeeze_f n p o x1 x2 x3 x4 x5 x6 h) n o x1 x2 x3 x4 x5 x6 h else none) = _
  rw [if_pos rfl]
theorem Zo_squeeze_e41 (n : Nat) (o : Nat) (x1 : Int32) (x2 : Int32) (x3 : Int32) (x4 : Int32) (x5 : Int32) (x6 : Int32) (h : xH) : Zo_squeeze_f (n + 1) 41 o x1 x2 x3 x4 x5 x6 h = Zo_squeeze_t41 (fun p x1 x2 x3 x4 x5 x6 h => Zo_squeeze_f n p o x1 x2 x3 x4 x5 x6 h) n o x1 x2 x3 x4 x5 x6 h := by
  show (if 41 = 0 then Zo_squeeze_t0 (fun p x1 x2 x3 x4 x5 x6 h => Zo_squeeze_f n p o x1 x2 x3 x4 x5 x6 h) n o x1 x2 x3 x4 x5 x6 h else if 41 = 41 then Zo_squeeze_t41 (fun p x1 x2 x3 x4 x5 x6 h => Zo_squeeze_f n p o x1 x2 x3 x4 x5 x6 h) n o x1 x2 x3 x4 x5 x6 h else if 41 = 66 then Zo_squeeze_t66 (fun p x1 x2 x3 x4 x5 x6 h => Zo_squeeze_f n p o x1 x2 x3 x4 x5 x6 h) n o x1 x2 x3 x4 x5 x6 h else none) = _
  rw [if_neg (by decide), if_pos rfl]
theorem Zo_squeeze_e66 (n : Nat) (o : Nat) (x1 : Int32) (x2 : Int32) (x3 : Int32) (x4 : Int32) (x5 : Int32) (x6 : Int32) (h : xH) : Zo_squeeze_f (n + 1) 66 o x1 x2 x3 x4 x5 x6 h = Zo_squeeze_t66 (fun p x1 x2 x3 x4 x5 x6 h => Zo_squeeze_f n p o x1 x2 x3 x4 x5 x6 h) n o x1 x2 x3 x4 x5 x6 h := by
  show (if 66 = 0 then Zo_squeeze_t0 (fun p x1 x2 x3 x4 x5 x6 h => Zo_squeeze_f n p o x1 x2 x3 x4 x5 x6 h) n o x1 x2 x3 x4 x5 x6 h else if 66 = 41 then Zo_squeeze_t41 (fun p x1 x2 x3 x4 x5 x6 h => Zo_squeeze_f n p o x1 x2 x3 x4 x5 x6 h) n o x1 x2 x3 x4 x5 x6 h else if 66 = 66 then Zo_squeeze_t66 (fun p x1 x2 x3 x4 x5 x6 h => Zo_squeeze_f n p o x1 x2 x3 x4 x5 x6 h) n o x1 x2 x3 x4 x5 x6 h else none) = _
  rw [if_neg (by decide), if_neg (by decide), if_pos rfl]
set_option maxRecDepth 100000 in
set_option maxHeartbeats 8000000 in
theorem Zo_squeeze_x {F : xF} {G : xG} {B sz : Nat} {o : Nat} (C : xC F G B cZo_squeeze RZo 7 1 22 0 0) (hr : (xFM F).sig.returnType = none) : ∀ (n : Nat) (x1 : Int32) (x2 : Int32) (x3 : Int32) (x4 : Int32) (x5 : Int32) (x6 : Int32) (h : xH) (R : Int32 × xH), (Zo_squeeze_f n 0 o x1 x2 x3 x4 x5 x6 h = some R → X F G B (xZ F G B (kP none R.2 sz) 0 0) 7 h sz 0 0 0 [(0, .ref (o)), (1, .int (x1)), (2, .int (x2)), (3, .int (x3))] []) ∧ (Zo_squeeze_f n 41 o x1 x2 x3 x4 x5 x6 h = some R → X F G B (xZ F G B (kP none R.2 sz) 0 0) 7 h sz 0 0 41 [(0, .ref (o)), (1, .int (x1)), (2, .int (x2)), (3, .int (x3)), (4, .int (x4))] []) ∧ (Zo_squeeze_f n 66 o x1 x2 x3 x4 x5 x6 h = some R → X F G B (xZ F G B (kP none R.2 sz) 0 0) 7 h sz 0 0 66 [(0, .ref (o)), (1, .int (x1)), (2, .int (x2)), (3, .int (x3)), (4, .int (x4)), (5, .int (x5)), (6, .int (x6))] []) := by
  intro n
  induction n with
  | zero => exact fun _ _ _ _ _ _ _ _ => ⟨(fun hR => nomatch (show (none : Option _) = some _ from hR)), (fun hR => nomatch (show (none : Option _) = some _ from hR)), (fun hR => nomatch (show (none : Option _) = some _ from hR))⟩
  | succ n ih =>
    intro x1 x2 x3 x4 x5 x6 h R
    refine ⟨fun hR => ?_, fun hR => ?_, fun hR => ?_⟩
    · rw [Zo_squeeze_e0] at hR
      unfold Zo_squeeze_t0 at hR
      refine X_aload_n C dZo_squeeze_0 rfl ?_
      have hq := o_bind hR
      clear hR
      obtain ⟨u1, hx5, hR⟩ := hq
      obtain ⟨fs2, he3, hv4⟩ := gi_e hx5
      refine X_get (k := 2) C oZo fwZo_26 he3 hv4 dZo_squeeze_1 ?_
      refine X_if_ne (tgt := 17) C dZo_squeeze_4 (by decide) (fun c6 => ?_) (fun c6 => ?_)
      · rw [if_neg c6] at hR
        rw [← Option.some.inj hR]
        exact X_vret C hr (Nat.le_refl _) (Nat.le_refl _) dZo_squeeze_17 ⟨rfl, rfl, rfl⟩
      · rw [if_pos c6] at hR
        refine X_iload_n C dZo_squeeze_7 rfl ?_
        refine X_aload_n C dZo_squeeze_8 rfl ?_
        refine X_iload_n C dZo_squeeze_9 rfl ?_
        refine X_iload_n C dZo_squeeze_10 rfl ?_
        have hq := o_if hR
        clear hR
        obtain ⟨k21, hR⟩ := hq
        obtain ⟨fs22, he23⟩ := kc_e k21
        have hq := o_bind hR
        clear hR
        obtain ⟨r7, hr7, hR⟩ := hq
        refine X_callVk (As := [.int (x1), .int (x2)]) (rest := [.int (x3)]) C (Zo_at_c hr7) wZo_36 ⟨by decide, by decide⟩ ⟨Nat.le_refl _, Nat.le_refl _⟩ he23 oZo.2.1 rfl rfl (Nat.le_of_ble_eq_true rfl) dZo_squeeze_11 ?_
        show X F G B _ 7 (r7.2) _ _ _ _ _ [.int (r7.1), .int (x3)]
        refine X_icmp_lt (tgt := 18) C dZo_squeeze_14 (by decide) (fun c8 => ?_) (fun c8 => ?_)
        · rw [if_pos c8] at hR
          refine X_iload_n C dZo_squeeze_18 rfl ?_
          refine X_aload_n C dZo_squeeze_19 rfl ?_
          refine X_iload_n C dZo_squeeze_20 rfl ?_
          refine X_iload_n C dZo_squeeze_21 rfl ?_
          have hq := o_if hR
          clear hR
          obtain ⟨k18, hR⟩ := hq
          obtain ⟨fs19, he20⟩ := kc_e k18
          have hq := o_bind hR
          clear hR
          obtain ⟨r9, hr9, hR⟩ := hq
          refine X_callVk (As := [.int (x2), .int (x1)]) (rest := [.int (x3)]) C (Zo_at_c hr9) wZo_36 ⟨by decide, by decide⟩ ⟨Nat.le_refl _, Nat.le_refl _⟩ he20 oZo.2.1 rfl rfl (Nat.le_of_ble_eq_true rfl) dZo_squeeze_22 ?_
          show X F G B _ 7 (r9.2) _ _ _ _ _ [.int (r9.1), .int (x3)]
          have hq := o_bind hR
          clear hR
          obtain ⟨r10, hr10, hR⟩ := hq
          refine X_callSk (As := [.int (x3), .int (r9.1)]) (rest := []) C (Zo_sum_c hr10) wZo_49 ⟨by decide, by decide⟩ ⟨Nat.le_refl _, Nat.le_refl _⟩ rfl rfl (Nat.le_of_ble_eq_true rfl) dZo_squeeze_25 ?_
          show X F G B _ 7 (r10.2) _ _ _ _ _ [.int (r10.1)]
          refine X_iconst (v := 1) C dZo_squeeze_28 rfl ?_
          refine X_icmp_ge (tgt := 38) C dZo_squeeze_29 (by decide) (fun c11 => ?_) (fun c11 => ?_)
          · rw [if_pos c11] at hR
            refine X_iconst (v := 0) C dZo_squeeze_38 rfl ?_
            refine X_istore (lv' := [(4, .int ((0 : Int32))), (0, .ref (o)), (1, .int (x1)), (2, .int (x2)), (3, .int (x3))]) C dZo_squeeze_39 (by decide) rfl ?_
            refine X_sub (lv' := [(0, .ref (o)), (1, .int (x1)), (2, .int (x2)), (3, .int (x3)), (4, .int ((0 : Int32)))]) [1, 2, 3, 4, 0] rfl ?_
            exact (ih (x1) (x2) (x3) ((0 : Int32)) 0 0 _ _).2.1 hR
          · rw [if_neg c11] at hR
            refine X_aload_n C dZo_squeeze_32 rfl ?_
            refine X_iconst (v := 1) C dZo_squeeze_33 rfl ?_
            have hq := o_bind hR
            clear hR
            obtain ⟨h12, hh13, hR⟩ := hq
            obtain ⟨fs14, he15, hl16, e17⟩ := pf_e hh13
            refine X_put (k := 2) C oZo fwZo_26 rfl he15 rfl rfl hl16 dZo_squeeze_34 ?_
            rw [← e17]
            rw [← Option.some.inj hR]
            exact X_vret C hr (Nat.le_refl _) (Nat.le_refl _) dZo_squeeze_37 ⟨rfl, rfl, rfl⟩
        · rw [if_neg c8] at hR
          rw [← Option.some.inj hR]
          exact X_vret C hr (Nat.le_refl _) (Nat.le_refl _) dZo_squeeze_17 ⟨rfl, rfl, rfl⟩
    · rw [Zo_squeeze_e41] at hR
      unfold Zo_squeeze_t41 at hR
      refine X_iload C dZo_squeeze_41 rfl ?_
      refine X_aload_n C dZo_squeeze_43 rfl ?_
      have hq := o_bind hR
      clear hR
      obtain ⟨u24, hx28, hR⟩ := hq
      obtain ⟨fs25, he26, hv27⟩ := gi_e hx28
      refine X_get (k := 0) C oZo fwZo_9 he26 hv27 dZo_squeeze_44 ?_
      refine X_icmp_ge (tgt := 132) C dZo_squeeze_47 (by decide) (fun c29 => ?_) (fun c29 => ?_)
      · rw [if_pos c29] at hR
        rw [← Option.some.inj hR]
        exact X_vret C hr (Nat.le_refl _) (Nat.le_refl _) dZo_squeeze_132 ⟨rfl, rfl, rfl⟩
      · rw [if_neg c29] at hR
        refine X_aload_n C dZo_squeeze_50 rfl ?_
        refine X_iload C dZo_squeeze_51 rfl ?_
        refine X_iload_n C dZo_squeeze_53 rfl ?_
        have hq := o_if hR
        clear hR
        obtain ⟨k32, hR⟩ := hq
        obtain ⟨fs33, he34⟩ := kc_e k32
        have hq := o_bind hR
        clear hR
        obtain ⟨r30, hr30, hR⟩ := hq
        refine X_callVk (As := [.int (x4), .int (x1)]) (rest := []) C (Zo_at_c hr30) wZo_36 ⟨by decide, by decide⟩ ⟨Nat.le_refl _, Nat.le_refl _⟩ he34 oZo.2.1 rfl rfl (Nat.le_of_ble_eq_true rfl) dZo_squeeze_54 ?_
        show X F G B _ 7 (r30.2) _ _ _ _ _ [.int (r30.1)]
        refine X_iload_n C dZo_squeeze_57 rfl ?_
        have hq := o_bind hR
        clear hR
        obtain ⟨r31, hr31, hR⟩ := hq
        refine X_callSk (As := [.int (r30.1), .int (x3)]) (rest := []) C (Zo_sum_c hr31) wZo_49 ⟨by decide, by decide⟩ ⟨Nat.le_refl _, Nat.le_refl _⟩ rfl rfl (Nat.le_of_ble_eq_true rfl) dZo_squeeze_58 ?_
        show X F G B _ 7 (r31.2) _ _ _ _ _ [.int (r31.1)]
        refine X_istore (lv' := [(5, .int (r31.1)), (0, .ref (o)), (1, .int (x1)), (2, .int (x2)), (3, .int (x3)), (4, .int (x4))]) C dZo_squeeze_61 (by decide) rfl ?_
        refine X_iconst (v := 0) C dZo_squeeze_63 rfl ?_
        refine X_istore (lv' := [(6, .int ((0 : Int32))), (5, .int (r31.1)), (0, .ref (o)), (1, .int (x1)), (2, .int (x2)), (3, .int (x3)), (4, .int (x4))]) C dZo_squeeze_64 (by decide) rfl ?_
        refine X_sub (lv' := [(0, .ref (o)), (1, .int (x1)), (2, .int (x2)), (3, .int (x3)), (4, .int (x4)), (5, .int (r31.1)), (6, .int ((0 : Int32)))]) [2, 3, 4, 5, 6, 1, 0] rfl ?_
        exact (ih (x1) (x2) (x3) (x4) (r31.1) ((0 : Int32)) _ _).2.2 hR
    · rw [Zo_squeeze_e66] at hR
      unfold Zo_squeeze_t66 at hR
      refine X_iload C dZo_squeeze_66 rfl ?_
      refine X_aload_n C dZo_squeeze_68 rfl ?_
      have hq := o_bind hR
      clear hR
      obtain ⟨u35, hx39, hR⟩ := hq
      obtain ⟨fs36, he37, hv38⟩ := gi_e hx39
      refine X_get (k := 0) C oZo fwZo_9 he37 hv38 dZo_squeeze_69 ?_
      refine X_icmp_ge (tgt := 126) C dZo_squeeze_72 (by decide) (fun c40 => ?_) (fun c40 => ?_)
      · rw [if_pos c40] at hR
        refine X_iinc (v := x4 + 1) (lv' := [(4, .int (x4 + 1)), (0, .ref (o)), (1, .int (x1)), (2, .int (x2)), (3, .int (x3)), (5, .int (x5)), (6, .int (x6))]) C dZo_squeeze_126 rfl rfl (by decide) rfl ?_
        refine X_goto (tgt := 41) C dZo_squeeze_129 (by decide) ?_
        refine X_sub (lv' := [(0, .ref (o)), (1, .int (x1)), (2, .int (x2)), (3, .int (x3)), (4, .int (x4 + 1))]) [1, 2, 3, 4, 0] rfl ?_
        exact (ih (x1) (x2) (x3) (x4 + 1) 0 0 _ _).2.1 hR
      · rw [if_neg c40] at hR
        refine X_iload C dZo_squeeze_75 rfl ?_
        refine X_ldc (v := 1000000) C kZo_25 dZo_squeeze_77 ?_
        refine X_icmp_eq (tgt := 126) C dZo_squeeze_79 (by decide) (fun c41 => ?_) (fun c41 => ?_)
        · rw [if_pos c41] at hR
          refine X_iinc (v := x4 + 1) (lv' := [(4, .int (x4 + 1)), (0, .ref (o)), (1, .int (x1)), (2, .int (x2)), (3, .int (x3)), (5, .int (x5)), (6, .int (x6))]) C dZo_squeeze_126 rfl rfl (by decide) rfl ?_
          refine X_goto (tgt := 41) C dZo_squeeze_129 (by decide) ?_
          refine X_sub (lv' := [(0, .ref (o)), (1, .int (x1)), (2, .int (x2)), (3, .int (x3)), (4, .int (x4 + 1))]) [1, 2, 3, 4, 0] rfl ?_
          exact (ih (x1) (x2) (x3) (x4 + 1) 0 0 _ _).2.1 hR
        · rw [if_neg c41] at hR
          refine X_aload_n C dZo_squeeze_82 rfl ?_
          have hq := o_bind hR
          clear hR
          obtain ⟨w42, hx46, hR⟩ := hq
          obtain ⟨fs43, he44, hv45⟩ := gq_e hx46
          refine X_get (k := 1) C oZo fwZo_15 he44 hv45 dZo_squeeze_83 ?_
          refine X_iload C dZo_squeeze_86 rfl ?_
          refine X_aload_n C dZo_squeeze_88 rfl ?_
          have hq := o_bind hR
          clear hR
          obtain ⟨u47, hx51, hR⟩ := hq
          obtain ⟨fs48, he49, hv50⟩ := gi_e hx51
          refine X_get (k := 0) C oZo fwZo_9 he49 hv50 dZo_squeeze_89 ?_
          refine X_imul C dZo_squeeze_92 ?_
          refine X_iload C dZo_squeeze_93 rfl ?_
          refine X_iadd C dZo_squeeze_95 ?_
          refine X_aload_n C dZo_squeeze_96 rfl ?_
          refine X_iload C dZo_squeeze_97 rfl ?_
          refine X_iload C dZo_squeeze_99 rfl ?_
          have hq := o_if hR
          clear hR
          obtain ⟨k66, hR⟩ := hq
          obtain ⟨fs67, he68⟩ := kc_e k66
          have hq := o_bind hR
          clear hR
          obtain ⟨r52, hr52, hR⟩ := hq
          refine X_callVk (As := [.int (x4), .int (x6)]) (rest := [.int (((x4) * (u47)) + (x6)), va_rf (w42)]) C (Zo_at_c hr52) wZo_36 ⟨by decide, by decide⟩ ⟨Nat.le_refl _, Nat.le_refl _⟩ he68 oZo.2.1 rfl rfl (by simp [rf_cat, cat_i, cat_r, cat_l]) dZo_squeeze_101 ?_
          show X F G B _ 7 (r52.2) _ _ _ _ _ [.int (r52.1), .int (((x4) * (u47)) + (x6)), va_rf (w42)]
          refine X_iload C dZo_squeeze_104 rfl ?_
          refine X_aload_n C dZo_squeeze_106 rfl ?_
          refine X_iload_n C dZo_squeeze_107 rfl ?_
          refine X_iload C dZo_squeeze_108 rfl ?_
          have hq := o_if hR
          clear hR
          obtain ⟨k63, hR⟩ := hq
          obtain ⟨fs64, he65⟩ := kc_e k63
          have hq := o_bind hR
          clear hR
          obtain ⟨r53, hr53, hR⟩ := hq
          refine X_callVk (As := [.int (x2), .int (x6)]) (rest := [.int (x5), .int (r52.1), .int (((x4) * (u47)) + (x6)), va_rf (w42)]) C (Zo_at_c hr53) wZo_36 ⟨by decide, by decide⟩ ⟨Nat.le_refl _, Nat.le_refl _⟩ he65 oZo.2.1 rfl rfl (by simp [rf_cat, cat_i, cat_r, cat_l]) dZo_squeeze_110 ?_
          show X F G B _ 7 (r53.2) _ _ _ _ _ [.int (r53.1), .int (x5), .int (r52.1), .int (((x4) * (u47)) + (x6)), va_rf (w42)]
          have hq := o_bind hR
          clear hR
          obtain ⟨r54, hr54, hR⟩ := hq
          refine X_callSk (As := [.int (x5), .int (r53.1)]) (rest := [.int (r52.1), .int (((x4) * (u47)) + (x6)), va_rf (w42)]) C (Zo_sum_c hr54) wZo_49 ⟨by decide, by decide⟩ ⟨Nat.le_refl _, Nat.le_refl _⟩ rfl rfl (by simp [rf_cat, cat_i, cat_r, cat_l]) dZo_squeeze_113 ?_
          show X F G B _ 7 (r54.2) _ _ _ _ _ [.int (r54.1), .int (r52.1), .int (((x4) * (u47)) + (x6)), va_rf (w42)]
          refine X_min C mwZo_40 ⟨by decide, by simp [rf_cat, cat_i, cat_r, cat_l]⟩ ⟨Nat.le_refl _, Nat.le_refl _⟩ dZo_squeeze_116 ?_
          have hq := o_bind hR
          clear hR
          obtain ⟨a55, rfl, hR⟩ := hq
          have hq := o_bind hR
          clear hR
          obtain ⟨h56, hh57, hR⟩ := hq
          obtain ⟨n58, f59, he60, hi61, e62⟩ := pa_e hh57
          refine X_iast C rfl he60 hi61 dZo_squeeze_119 ?_
          rw [← e62]
          refine X_iinc (v := x6 + 1) (lv' := [(6, .int (x6 + 1)), (0, .ref (o)), (1, .int (x1)), (2, .int (x2)), (3, .int (x3)), (4, .int (x4)), (5, .int (x5))]) C dZo_squeeze_120 rfl rfl (by decide) rfl ?_
          refine X_goto (tgt := 66) C dZo_squeeze_123 (by decide) ?_
          refine X_sub (lv' := [(0, .ref (o)), (1, .int (x1)), (2, .int (x2)), (3, .int (x3)), (4, .int (x4)), (5, .int (x5)), (6, .int (x6 + 1))]) [1, 2, 3, 4, 5, 6, 0] rfl ?_
          exact (ih (x1) (x2) (x3) (x4) (x5) (x6 + 1) _ _).2.2 hR
theorem Zo_squeeze_c {l : Launch} {G : xG} {B sz : Nat} {o : Nat} {n : Nat} {x1 : Int32} {x2 : Int32} {x3 : Int32} {h : xH} {R : Int32 × xH} (hR : Zo_squeeze_f n 0 o x1 x2 x3 0 0 0 h = some R) : xCon l yZo_squeeze cZo_squeeze 7 none 1 22 0 0 G B [.ref (o), .int (x1), .int (x2), .int (x3)] h sz (kP none R.2 sz) := xCon.of (by decide) (by exact Nat.le_of_ble_eq_true rfl) (fun F e C hr hnm => X_sub (lv' := [(0, .ref (o)), (1, .int (x1)), (2, .int (x2)), (3, .int (x3))]) [0, 1, 2, 3] rfl ((Zo_squeeze_x C hr n x1 x2 x3 0 0 0 h R).1 hR))
def Ya_confine_t0 (f : Nat → Option Nat → Int32 → Option Nat → Int32 → xH → Option (Int32 × xH)) (n : Nat) (o : Nat) (y1 : Option Nat) (x2 : Int32) (y3 : Option Nat) (x4 : Int32) (h : xH) : Option (Int32 × xH) := f 2 (y1) ((0 : Int32)) none 0 h
def Ya_confine_t2 (f : Nat → Option Nat → Int32 → Option Nat → Int32 → xH → Option (Int32 × xH)) (n : Nat) (o : Nat) (y1 : Option Nat) (x2 : Int32) (y3 : Option Nat) (x4 : Int32) (h : xH) : Option (Int32 × xH) := obd (gi h (o) 3 1) (fun u1 => (if u1 ≤ x2 then some (0, h) else obd (gq h (o) 3 10) (fun w7 => obd w7 (fun a12 => obd (ai h (a12) 0 (x2)) (fun u13 => (if kc h (o) 3 = true then obd (Ya_placeAt_f n (o) (x2) (u13) h) (fun r20 => bnd (r20.1) (fun w21 => f 25 (y1) (x2) (w21) ((0 : Int32)) r20.2)) else none))))))
def Ya_confine_t25 (f : Nat → Option Nat → Int32 → Option Nat → Int32 → xH → Option (Int32 × xH)) (n : Nat) (o : Nat) (y1 : Option Nat) (x2 : Int32) (y3 : Option Nat) (x4 : Int32) (h : xH) : Option (Int32 × xH) := oel (y3) (f 2 (y1) (x2 + 1) none 0 h) (fun a26 => obd (gi h (a26) 6 2) (fun u28 => (if u28 ≤ x4 then f 2 (y1) (x2 + 1) none 0 h else (if (2 : Int32) ≤ x4 then f 2 (y1) (x2 + 1) none 0 h else obd (gq h (a26) 6 0) (fun w35 => obd w35 (fun a40 => obd (ai h (a40) 0 (x4)) (fun u41 => obd (gq h (a26) 6 1) (fun w48 => obd w48 (fun a53 => obd (ai h (a53) 0 (x4)) (fun u54 => obd y1 (fun a61 => (if kc h (a61) 1 = true then obd (Zo_squeeze_f n 0 (a61) (u41) ((0 : Int32)) (u54) 0 0 0 h) (fun r62 => f 25 (some (a61)) (x2) (some (a26)) (x4 + 1) r62.2) else none))))))))))))
def Ya_confine_f : Nat → Nat → Nat → Option Nat → Int32 → Option Nat → Int32 → xH → Option (Int32 × xH)
  | 0 => fun _ _ _ _ _ _ _ => none
  | n + 1 => fun p o y1 x2 y3 x4 h => if p = 0 then Ya_confine_t0 (fun p y1 x2 y3 x4 h => Ya_confine_f n p o y1 x2 y3 x4 h) n o y1 x2 y3 x4 h else if p = 2 then Ya_confine_t2 (fun p y1 x2 y3 x4 h => Ya_confine_f n p o y1 x2 y3 x4 h) n o y1 x2 y3 x4 h else if p = 25 then Ya_confine_t25 (fun p y1 x2 y3 x4 h => Ya_confine_f n p o y1 x2 y3 x4 h) n o y1 x2 y3 x4 h else none
theorem Ya_confine_e0 (n : Nat) (o : Nat) (y1 : Option Nat) (x2 : Int32) (y3 : Option Nat) (x4 : Int32) (h : xH) : Ya_confine_f (n + 1) 0 o y1 x2 y3 x4 h = Ya_confine_t0 (fun p y1 x2 y3 x4 h => Ya_confine_f n p o y1 x2 y3 x4 h) n o y1 x2 y3 x4 h := by
  show (if 0 = 0 then Ya_confine_t0 (fun p y1 x2 y3 x4 h => Ya_confine_f n p o y1 x2 y3 x4 h) n o y1 x2 y3 x4 h else if 0 = 2 then Ya_confine_t2 (fun p y1 x2 y3 x4 h => Ya_confine_f n p o y1 x2 y3 x4 h) n o y1 x2 y3 x4 h else if 0 = 25 then Ya_confine_t25 (fun p y1 x2 y3 x4 h => Ya_confine_f n p o y1 x2 y3 x4 h) n o y1 x2 y3 x4 h else none) = _
  rw [if_pos rfl]
theorem Ya_confine_e2 (n : Nat) (o : Nat) (y1 : Option Nat) (x2 : Int32) (y3 : Option Nat) (x4 : Int32) (h : xH) : Ya_confine_f (n + 1) 2 o y1 x2 y3 x4 h = Ya_confine_t2 (fun p y1 x2 y3 x4 h => Ya_confine_f n p o y1 x2 y3 x4 h) n o y1 x2 y3 x4 h := by
  show (if 2 = 0 then Ya_confine_t0 (fun p y1 x2 y3 x4 h => Ya_confine_f n p o y1 x2 y3 x4 h) n o y1 x2 y3 x4 h else if 2 = 2 then Ya_confine_t2 (fun p y1 x2 y3 x4 h => Ya_confine_f n p o y1 x2 y3 x4 h) n o y1 x2 y3 x4 h else if 2 = 25 then Ya_confine_t25 (fun p y1 x2 y3 x4 h => Ya_confine_f n p o y1 x2 y3 x4 h) n o y1 x2 y3 x4 h else none) = _
  rw [if_neg (by decide), if_pos rfl]
theorem Ya_confine_e25 (n : Nat) (o : Nat) (y1 : Option Nat) (x2 : Int32) (y3 : Option Nat) (x4 : Int32) (h : xH) : Ya_confine_f (n + 1) 25 o y1 x2 y3 x4 h = Ya_confine_t25 (fun p y1 x2 y3 x4 h => Ya_confine_f n p o y1 x2 y3 x4 h) n o y1 x2 y3 x4 h := by
  show (if 25 = 0 then Ya_confine_t0 (fun p y1 x2 y3 x4 h => Ya_confine_f n p o y1 x2 y3 x4 h) n o y1 x2 y3 x4 h else if 25 = 2 then Ya_confine_t2 (fun p y1 x2 y3 x4 h => Ya_confine_f n p o y1 x2 y3 x4 h) n o y1 x2 y3 x4 h else if 25 = 25 then Ya_confine_t25 (fun p y1 x2 y3 x4 h => Ya_confine_f n p o y1 x2 y3 x4 h) n o y1 x2 y3 x4 h else none) = _
  rw [if_neg (by decide), if_neg (by decide), if_pos rfl]
set_option maxRecDepth 100000 in
set_option maxHeartbeats 8000000 in
theorem Ya_confine_x {F : xF} {G : xG} {B sz : Nat} {o : Nat} (C : xC F G B cYa_confine RYa 5 2 48 0 0) (hr : (xFM F).sig.returnType = none) : ∀ (n : Nat) (y1 : Option Nat) (x2 : Int32) (y3 : Option Nat) (x4 : Int32) (h : xH) (R : Int32 × xH), (Ya_confine_f n 0 o y1 x2 y3 x4 h = some R → X F G B (xZ F G B (kP none R.2 sz) 0 0) 5 h sz 0 0 0 [(0, .ref (o)), (1, va_rf (y1))] []) ∧ (Ya_confine_f n 2 o y1 x2 y3 x4 h = some R → X F G B (xZ F G B (kP none R.2 sz) 0 0) 5 h sz 0 0 2 [(0, .ref (o)), (1, va_rf (y1)), (2, .int (x2))] []) ∧ (Ya_confine_f n 25 o y1 x2 y3 x4 h = some R → X F G B (xZ F G B (kP none R.2 sz) 0 0) 5 h sz 0 0 25 [(0, .ref (o)), (1, va_rf (y1)), (2, .int (x2)), (3, va_rf (y3)), (4, .int (x4))] []) := by
  intro n
  induction n with
  | zero => exact fun _ _ _ _ _ _ => ⟨(fun hR => nomatch (show (none : Option _) = some _ from hR)), (fun hR => nomatch (show (none : Option _) = some _ from hR)), (fun hR => nomatch (show (none : Option _) = some _ from hR))⟩
  | succ n ih =>
    intro y1 x2 y3 x4 h R
    refine ⟨fun hR => ?_, fun hR => ?_, fun hR => ?_⟩
    · rw [Ya_confine_e0] at hR
      unfold Ya_confine_t0 at hR
      refine X_iconst (v := 0) C dYa_confine_0 rfl ?_
      refine X_istore_n (lv' := [(2, .int ((0 : Int32))), (0, .ref (o)), (1, va_rf (y1))]) C dYa_confine_1 (by decide) (by simp [rf_cat, cat_i, cat_r, cat_l, rf_n, rf_s] <;> decide) ?_
      refine X_sub (lv' := [(0, .ref (o)), (1, va_rf ((y1))), (2, .int ((0 : Int32)))]) [1, 2, 0] rfl ?_
      exact (ih (y1) ((0 : Int32)) none 0 _ _).2.1 hR
    · rw [Ya_confine_e2] at hR
      unfold Ya_confine_t2 at hR
      refine X_iload_n C dYa_confine_2 rfl ?_
      refine X_aload_n C dYa_confine_3 rfl ?_
      have hq := o_bind hR
      clear hR
      obtain ⟨u1, hx5, hR⟩ := hq
      obtain ⟨fs2, he3, hv4⟩ := gi_e hx5
      refine X_get (k := 1) C oYa fwYa_43 he3 hv4 dYa_confine_4 ?_
      refine X_icmp_ge (tgt := 75) C dYa_confine_7 (by decide) (fun c6 => ?_) (fun c6 => ?_)
      · rw [if_pos c6] at hR
        rw [← Option.some.inj hR]
        exact X_vret C hr (Nat.le_refl _) (Nat.le_refl _) dYa_confine_75 ⟨rfl, rfl, rfl⟩
      · rw [if_neg c6] at hR
        refine X_aload_n C dYa_confine_10 rfl ?_
        refine X_iload_n C dYa_confine_11 rfl ?_
        refine X_aload_n C dYa_confine_12 rfl ?_
        have hq := o_bind hR
        clear hR
        obtain ⟨w7, hx11, hR⟩ := hq
        obtain ⟨fs8, he9, hv10⟩ := gq_e hx11
        refine X_get (k := 10) C oYa fwYa_31 he9 hv10 dYa_confine_13 ?_
        refine X_iload_n C dYa_confine_16 rfl ?_
        have hq := o_bind hR
        clear hR
        obtain ⟨a12, rfl, hR⟩ := hq
        have hq := o_bind hR
        clear hR
        obtain ⟨u13, hx14, hR⟩ := hq
        obtain ⟨n15, f16, he17, hi18, e19⟩ := ai_e hx14
        refine X_iald C rfl he17 hi18 dYa_confine_17 ?_
        rw [← e19]
        have hq := o_if hR
        clear hR
        obtain ⟨k23, hR⟩ := hq
        obtain ⟨fs24, he25⟩ := kc_e k23
        have hq := o_bind hR
        clear hR
        obtain ⟨r20, hr20, hR⟩ := hq
        refine X_callVk (As := [.int (x2), .int (u13)]) (rest := []) C (Ya_placeAt_c hr20) wYa_68 ⟨by decide, by decide⟩ ⟨Nat.le_refl _, Nat.le_refl _⟩ he25 oYa.2.1 rfl rfl (Nat.le_of_ble_eq_true rfl) dYa_confine_18 ?_
        show X F G B _ 5 (r20.2) _ _ _ _ _ [va_rf (r20.1)]
        have hq := b_bnd hR
        clear hR
        obtain ⟨w21, e22, hR⟩ := hq
        rw [← e22]
        refine X_astore_nq (lv' := [(3, va_rf (w21)), (0, .ref (o)), (1, va_rf (y1)), (2, .int (x2))]) C dYa_confine_21 (by decide) (by simp [rf_cat, cat_i, cat_r, cat_l, rf_n, rf_s] <;> decide) ?_
        refine X_iconst (v := 0) C dYa_confine_22 rfl ?_
        refine X_istore (lv' := [(4, .int ((0 : Int32))), (3, va_rf (w21)), (0, .ref (o)), (1, va_rf (y1)), (2, .int (x2))]) C dYa_confine_23 (by decide) (by simp [rf_cat, cat_i, cat_r, cat_l, rf_n, rf_s] <;> decide) ?_
        refine X_sub (lv' := [(0, .ref (o)), (1, va_rf ((y1))), (2, .int (x2)), (3, va_rf ((w21))), (4, .int ((0 : Int32)))]) [2, 3, 4, 1, 0] rfl ?_
        exact (ih (y1) (x2) (w21) ((0 : Int32)) _ _).2.2 hR
    · rw [Ya_confine_e25] at hR
      unfold Ya_confine_t25 at hR
      refine X_aload_nq C dYa_confine_25 rfl ?_
      refine X_ifnullq (tgt := 69) C dYa_confine_26 (by decide) (fun e27 => ?_) (fun a26 e27 => ?_)
      · subst e27
        rw [oel_n] at hR
        refine X_iinc (v := x2 + 1) (lv' := [(2, .int (x2 + 1)), (0, .ref (o)), (1, va_rf (y1)), (3, .null), (4, .int (x4))]) C dYa_confine_69 rfl rfl (by decide) (by simp [rf_cat, cat_i, cat_r, cat_l, rf_n, rf_s] <;> decide) ?_
        refine X_goto (tgt := 2) C dYa_confine_72 (by decide) ?_
        refine X_sub (lv' := [(0, .ref (o)), (1, va_rf ((y1))), (2, .int (x2 + 1))]) [1, 2, 0] rfl ?_
        exact (ih (y1) (x2 + 1) none 0 _ _).2.1 hR
      · subst e27
        rw [oel_s] at hR
        refine X_iload C dYa_confine_29 rfl ?_
        refine X_aload_n C dYa_confine_31 rfl ?_
        have hq := o_bind hR
        clear hR
        obtain ⟨u28, hx32, hR⟩ := hq
        obtain ⟨fs29, he30, hv31⟩ := gi_e hx32
        refine X_get (k := 2) C oPl fwYa_137 he30 hv31 dYa_confine_32 ?_
        refine X_icmp_ge (tgt := 69) C dYa_confine_35 (by decide) (fun c33 => ?_) (fun c33 => ?_)
        · rw [if_pos c33] at hR
          refine X_iinc (v := x2 + 1) (lv' := [(2, .int (x2 + 1)), (0, .ref (o)), (1, va_rf (y1)), (3, .ref (a26)), (4, .int (x4))]) C dYa_confine_69 rfl rfl (by decide) (by simp [rf_cat, cat_i, cat_r, cat_l, rf_n, rf_s] <;> decide) ?_
          refine X_goto (tgt := 2) C dYa_confine_72 (by decide) ?_
          refine X_sub (lv' := [(0, .ref (o)), (1, va_rf ((y1))), (2, .int (x2 + 1))]) [1, 2, 0] rfl ?_
          exact (ih (y1) (x2 + 1) none 0 _ _).2.1 hR
        · rw [if_neg c33] at hR
          refine X_iload C dYa_confine_38 rfl ?_
          refine X_iconst (v := 2) C dYa_confine_40 rfl ?_
          refine X_icmp_ge (tgt := 69) C dYa_confine_41 (by decide) (fun c34 => ?_) (fun c34 => ?_)
          · rw [if_pos c34] at hR
            refine X_iinc (v := x2 + 1) (lv' := [(2, .int (x2 + 1)), (0, .ref (o)), (1, va_rf (y1)), (3, .ref (a26)), (4, .int (x4))]) C dYa_confine_69 rfl rfl (by decide) (by simp [rf_cat, cat_i, cat_r, cat_l, rf_n, rf_s] <;> decide) ?_
            refine X_goto (tgt := 2) C dYa_confine_72 (by decide) ?_
            refine X_sub (lv' := [(0, .ref (o)), (1, va_rf ((y1))), (2, .int (x2 + 1))]) [1, 2, 0] rfl ?_
            exact (ih (y1) (x2 + 1) none 0 _ _).2.1 hR
          · rw [if_neg c34] at hR
            refine X_aload_nq C dYa_confine_44 rfl ?_
            refine X_aload_n C dYa_confine_45 rfl ?_
            have hq := o_bind hR
            clear hR
            obtain ⟨w35, hx39, hR⟩ := hq
            obtain ⟨fs36, he37, hv38⟩ := gq_e hx39
            refine X_get (k := 0) C oPl fwYa_142 he37 hv38 dYa_confine_46 ?_
            refine X_iload C dYa_confine_49 rfl ?_
            have hq := o_bind hR
            clear hR
            obtain ⟨a40, rfl, hR⟩ := hq
            have hq := o_bind hR
            clear hR
            obtain ⟨u41, hx42, hR⟩ := hq
            obtain ⟨n43, f44, he45, hi46, e47⟩ := ai_e hx42
            refine X_iald C rfl he45 hi46 dYa_confine_51 ?_
            rw [← e47]
            refine X_iconst (v := 0) C dYa_confine_52 rfl ?_
            refine X_aload_n C dYa_confine_53 rfl ?_
            have hq := o_bind hR
            clear hR
            obtain ⟨w48, hx52, hR⟩ := hq
            obtain ⟨fs49, he50, hv51⟩ := gq_e hx52
            refine X_get (k := 1) C oPl fwYa_145 he50 hv51 dYa_confine_54 ?_
            refine X_iload C dYa_confine_57 rfl ?_
            have hq := o_bind hR
            clear hR
            obtain ⟨a53, rfl, hR⟩ := hq
            have hq := o_bind hR
            clear hR
            obtain ⟨u54, hx55, hR⟩ := hq
            obtain ⟨n56, f57, he58, hi59, e60⟩ := ai_e hx55
            refine X_iald C rfl he58 hi59 dYa_confine_59 ?_
            rw [← e60]
            have hq := o_bind hR
            clear hR
            obtain ⟨a61, rfl, hR⟩ := hq
            have hq := o_if hR
            clear hR
            obtain ⟨k63, hR⟩ := hq
            obtain ⟨fs64, he65⟩ := kc_e k63
            have hq := o_bind hR
            clear hR
            obtain ⟨r62, hr62, hR⟩ := hq
            refine X_callVk (As := [.int (u41), .int ((0 : Int32)), .int (u54)]) (rest := []) C (Zo_squeeze_c hr62) wYa_228 ⟨by decide, by decide⟩ ⟨Nat.le_refl _, Nat.le_refl _⟩ he65 oZo.2.1 rfl rfl (Nat.le_of_ble_eq_true rfl) dYa_confine_60 ?_
            show X F G B _ 5 (r62.2) _ _ _ _ _ []
            refine X_iinc (v := x4 + 1) (lv' := [(4, .int (x4 + 1)), (0, .ref (o)), (1, .ref (a61)), (2, .int (x2)), (3, .ref (a26))]) C dYa_confine_63 rfl rfl (by decide) rfl ?_
            refine X_goto (tgt := 25) C dYa_confine_66 (by decide) ?_
            refine X_sub (lv' := [(0, .ref (o)), (1, va_rf ((some (a61)))), (2, .int (x2)), (3, va_rf ((some (a26)))), (4, .int (x4 + 1))]) [1, 2, 3, 4, 0] rfl ?_
            exact (ih (some (a61)) (x2) (some (a26)) (x4 + 1) _ _).2.2 hR
theorem Ya_confine_c {l : Launch} {G : xG} {B sz : Nat} {o : Nat} {n : Nat} {y1 : Option Nat} {h : xH} {R : Int32 × xH} (hR : Ya_confine_f n 0 o y1 0 none 0 h = some R) : xCon l yYa_confine cYa_confine 5 none 2 48 0 0 G B [.ref (o), va_rf (y1)] h sz (kP none R.2 sz) := xCon.of (by decide) (by simp [lg_sl, rf_cat, cat_i, cat_r, cat_l]) (fun F e C hr hnm => X_sub (lv' := [(0, .ref (o)), (1, va_rf (y1))]) [0, 1] (by simp [lv_args, lv_pick, rf_cat, cat_i, cat_r, cat_l]) ((Ya_confine_x C hr n y1 0 none 0 h R).1 hR))
