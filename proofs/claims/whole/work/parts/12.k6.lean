def Ti_set_f (n : Nat) (o : Nat) (x1 : Int32) (h : xH) : Option (Int32 × xH) := obd (Ti_isBetween_f n (x1) ((0 : Int32)) ((7 : Int32)) h) (fun r1 => (if r1.1 = 0 then some (((-1) : Int32), r1.2) else obd (gq r1.2 (o) 4 1) (fun w3 => obd w3 (fun a8 => (if kc r1.2 (a8) 1 = true then obd (Zo_reset_f n 0 (a8) (x1) 0 0 r1.2) (fun r9 => (if kc r9.2 (o) 4 = true then obd (Ti_handEmpty_f n (o) r9.2) (fun r10 => some (r10.1, r10.2)) else none)) else none)))))
set_option maxRecDepth 100000 in
set_option maxHeartbeats 8000000 in
theorem Ti_set_x {F : xF} {G : xG} {B sz : Nat} {o : Nat} (C : xC F G B cTi_set RTi 2 2 46 0 0) (hr : (xFM F).sig.returnType = (some .int)) {n : Nat} {x1 : Int32} {h : xH} {R : Int32 × xH} (hR : Ti_set_f n o x1 h = some R) : X F G B (xZ F G B (kP (some (.int R.1)) R.2 sz) 0 0) 2 h sz 0 0 0 [(0, .ref (o)), (1, .int (x1))] [] := by
  unfold Ti_set_f at hR
  refine X_iload_n C dTi_set_0 rfl ?_
  refine X_iconst (v := 0) C dTi_set_1 rfl ?_
  refine X_bipush (v := 7) C dTi_set_2 (by decide) ?_
  have hq := o_bind hR
  clear hR
  obtain ⟨r1, hr1, hR⟩ := hq
  refine X_callSk (As := [.int (x1), .int ((0 : Int32)), .int ((7 : Int32))]) (rest := []) C (Ti_isBetween_c hr1) wTi_71 ⟨by decide, by decide⟩ ⟨Nat.le_refl _, Nat.le_refl _⟩ rfl rfl (Nat.le_of_ble_eq_true rfl) dTi_set_4 ?_
  show X F G B _ 2 (r1.2) _ _ _ _ _ [.int (r1.1)]
  refine X_if_ne (tgt := 12) C dTi_set_7 (by decide) (fun c2 => ?_) (fun c2 => ?_)
  · rw [if_neg c2] at hR
    refine X_aload_n C dTi_set_12 rfl ?_
    have hq := o_bind hR
    clear hR
    obtain ⟨w3, hx7, hR⟩ := hq
    obtain ⟨fs4, he5, hv6⟩ := gq_e hx7
    refine X_get (k := 1) C oTi fwTi_21 he5 hv6 dTi_set_13 ?_
    refine X_iload_n C dTi_set_16 rfl ?_
    have hq := o_bind hR
    clear hR
    obtain ⟨a8, rfl, hR⟩ := hq
    have hq := o_if hR
    clear hR
    obtain ⟨k14, hR⟩ := hq
    obtain ⟨fs15, he16⟩ := kc_e k14
    have hq := o_bind hR
    clear hR
    obtain ⟨r9, hr9, hR⟩ := hq
    refine X_callVk (As := [.int (x1)]) (rest := []) C (Zo_reset_c hr9) wTi_200 ⟨by decide, by decide⟩ ⟨Nat.le_refl _, Nat.le_refl _⟩ he16 oZo.2.1 rfl rfl (Nat.le_of_ble_eq_true rfl) dTi_set_17 ?_
    show X F G B _ 2 (r9.2) _ _ _ _ _ []
    refine X_aload_n C dTi_set_20 rfl ?_
    have hq := o_if hR
    clear hR
    obtain ⟨k11, hR⟩ := hq
    obtain ⟨fs12, he13⟩ := kc_e k11
    have hq := o_bind hR
    clear hR
    obtain ⟨r10, hr10, hR⟩ := hq
    refine X_callVk (As := []) (rest := []) C (Ti_handEmpty_c hr10) wTi_193 ⟨by decide, by decide⟩ ⟨Nat.le_refl _, Nat.le_refl _⟩ he13 oTi.2.1 rfl rfl (Nat.le_of_ble_eq_true rfl) dTi_set_21 ?_
    show X F G B _ 2 (r10.2) _ _ _ _ _ [.int (r10.1)]
    rw [← Option.some.inj hR]
    exact X_iret C hr (Nat.le_refl _) (Nat.le_refl _) dTi_set_24 ⟨rfl, rfl, rfl⟩
  · rw [if_pos c2] at hR
    refine X_iconst (v := (-1)) C dTi_set_10 rfl ?_
    rw [← Option.some.inj hR]
    exact X_iret C hr (Nat.le_refl _) (Nat.le_refl _) dTi_set_11 ⟨rfl, rfl, rfl⟩
theorem Ti_set_c {l : Launch} {G : xG} {B sz : Nat} {o : Nat} {n : Nat} {x1 : Int32} {h : xH} {R : Int32 × xH} (hR : Ti_set_f n o x1 h = some R) : xCon l yTi_set cTi_set 2 (some .int) 2 46 0 0 G B [.ref (o), .int (x1)] h sz (kP (some (.int R.1)) R.2 sz) := xCon.of (by decide) (by exact Nat.le_of_ble_eq_true rfl) (fun F e C hr hnm => X_sub (lv' := [(0, .ref (o)), (1, .int (x1))]) [0, 1] rfl (Ti_set_x C hr hR))
def Ti_letGo_f (n : Nat) (o : Nat) (x1 : Int32) (x2 : Int32) (x3 : Int32) (h : xH) : Option (Int32 × xH) := obd (Ti_isBetween_f n (x1) ((0 : Int32)) ((200 : Int32)) h) (fun r1 => (if r1.1 = 0 then some (((-1) : Int32), r1.2) else obd (Ti_isBetween_f n (x2) ((0 : Int32)) ((200 : Int32)) r1.2) (fun r3 => (if r3.1 = 0 then some (((-1) : Int32), r3.2) else obd (Ti_isBetween_f n (x3) ((0 : Int32)) ((200 : Int32)) r3.2) (fun r5 => (if r5.1 = 0 then some (((-1) : Int32), r5.2) else obd (gq r5.2 (o) 4 2) (fun w7 => obd w7 (fun a12 => obd (pa r5.2 (a12) 0 ((1 : Int32)) (x1)) (fun h13 => obd (gq h13 (o) 4 2) (fun w20 => obd w20 (fun a25 => obd (pa h13 (a25) 0 ((2 : Int32)) (x2)) (fun h26 => obd (gq h26 (o) 4 2) (fun w33 => obd w33 (fun a38 => obd (pa h26 (a38) 0 ((3 : Int32)) (x3)) (fun h39 => obd (gq h39 (o) 4 1) (fun w46 => obd (gq h39 (o) 4 2) (fun w51 => obd w46 (fun a56 => (if kc h39 (a56) 1 = true then obd (Zo_loosen_f n 0 (a56) (w51) 0 0 0 h39) (fun r57 => (if kc r57.2 (o) 4 = true then obd (Ti_handEmpty_f n (o) r57.2) (fun r58 => some (r58.1, r58.2)) else none)) else none)))))))))))))))))))
set_option maxRecDepth 100000 in
set_option maxHeartbeats 8000000 in
theorem Ti_letGo_x {F : xF} {G : xG} {B sz : Nat} {o : Nat} (C : xC F G B cTi_letGo RTi 4 3 70 0 0) (hr : (xFM F).sig.returnType = (some .int)) {n : Nat} {x1 : Int32} {x2 : Int32} {x3 : Int32} {h : xH} {R : Int32 × xH} (hR : Ti_letGo_f n o x1 x2 x3 h = some R) : X F G B (xZ F G B (kP (some (.int R.1)) R.2 sz) 0 0) 4 h sz 0 0 0 [(0, .ref (o)), (1, .int (x1)), (2, .int (x2)), (3, .int (x3))] [] := by
  unfold Ti_letGo_f at hR
  refine X_iload_n C dTi_letGo_0 rfl ?_
  refine X_iconst (v := 0) C dTi_letGo_1 rfl ?_
  refine X_sipush (v := 200) C dTi_letGo_2 (by decide) ?_
  have hq := o_bind hR
  clear hR
  obtain ⟨r1, hr1, hR⟩ := hq
  refine X_callSk (As := [.int (x1), .int ((0 : Int32)), .int ((200 : Int32))]) (rest := []) C (Ti_isBetween_c hr1) wTi_71 ⟨by decide, by decide⟩ ⟨Nat.le_refl _, Nat.le_refl _⟩ rfl rfl (Nat.le_of_ble_eq_true rfl) dTi_letGo_5 ?_
  show X F G B _ 4 (r1.2) _ _ _ _ _ [.int (r1.1)]
  refine X_if_eq (tgt := 33) C dTi_letGo_8 (by decide) (fun c2 => ?_) (fun c2 => ?_)
  · rw [if_pos c2] at hR
    refine X_iconst (v := (-1)) C dTi_letGo_33 rfl ?_
    rw [← Option.some.inj hR]
    exact X_iret C hr (Nat.le_refl _) (Nat.le_refl _) dTi_letGo_34 ⟨rfl, rfl, rfl⟩
  · rw [if_neg c2] at hR
    refine X_iload_n C dTi_letGo_11 rfl ?_
    refine X_iconst (v := 0) C dTi_letGo_12 rfl ?_
    refine X_sipush (v := 200) C dTi_letGo_13 (by decide) ?_
    have hq := o_bind hR
    clear hR
    obtain ⟨r3, hr3, hR⟩ := hq
    refine X_callSk (As := [.int (x2), .int ((0 : Int32)), .int ((200 : Int32))]) (rest := []) C (Ti_isBetween_c hr3) wTi_71 ⟨by decide, by decide⟩ ⟨Nat.le_refl _, Nat.le_refl _⟩ rfl rfl (Nat.le_of_ble_eq_true rfl) dTi_letGo_16 ?_
    show X F G B _ 4 (r3.2) _ _ _ _ _ [.int (r3.1)]
    refine X_if_eq (tgt := 33) C dTi_letGo_19 (by decide) (fun c4 => ?_) (fun c4 => ?_)
    · rw [if_pos c4] at hR
      refine X_iconst (v := (-1)) C dTi_letGo_33 rfl ?_
      rw [← Option.some.inj hR]
      exact X_iret C hr (Nat.le_refl _) (Nat.le_refl _) dTi_letGo_34 ⟨rfl, rfl, rfl⟩
    · rw [if_neg c4] at hR
      refine X_iload_n C dTi_letGo_22 rfl ?_
      refine X_iconst (v := 0) C dTi_letGo_23 rfl ?_
      refine X_sipush (v := 200) C dTi_letGo_24 (by decide) ?_
      have hq := o_bind hR
      clear hR
      obtain ⟨r5, hr5, hR⟩ := hq
      refine X_callSk (As := [.int (x3), .int ((0 : Int32)), .int ((200 : Int32))]) (rest := []) C (Ti_isBetween_c hr5) wTi_71 ⟨by decide, by decide⟩ ⟨Nat.le_refl _, Nat.le_refl _⟩ rfl rfl (Nat.le_of_ble_eq_true rfl) dTi_letGo_27 ?_
      show X F G B _ 4 (r5.2) _ _ _ _ _ [.int (r5.1)]
      refine X_if_ne (tgt := 35) C dTi_letGo_30 (by decide) (fun c6 => ?_) (fun c6 => ?_)
      · rw [if_neg c6] at hR
        refine X_aload_n C dTi_letGo_35 rfl ?_
        have hq := o_bind hR
        clear hR
        obtain ⟨w7, hx11, hR⟩ := hq
        obtain ⟨fs8, he9, hv10⟩ := gq_e hx11
        refine X_get (k := 2) C oTi fwTi_28 he9 hv10 dTi_letGo_36 ?_
        refine X_iconst (v := 1) C dTi_letGo_39 rfl ?_
        refine X_iload_n C dTi_letGo_40 rfl ?_
        have hq := o_bind hR
        clear hR
        obtain ⟨a12, rfl, hR⟩ := hq
        have hq := o_bind hR
        clear hR
        obtain ⟨h13, hh14, hR⟩ := hq
        obtain ⟨n15, f16, he17, hi18, e19⟩ := pa_e hh14
        refine X_iast C rfl he17 hi18 dTi_letGo_41 ?_
        rw [← e19]
        refine X_aload_n C dTi_letGo_42 rfl ?_
        have hq := o_bind hR
        clear hR
        obtain ⟨w20, hx24, hR⟩ := hq
        obtain ⟨fs21, he22, hv23⟩ := gq_e hx24
        refine X_get (k := 2) C oTi fwTi_28 he22 hv23 dTi_letGo_43 ?_
        refine X_iconst (v := 2) C dTi_letGo_46 rfl ?_
        refine X_iload_n C dTi_letGo_47 rfl ?_
        have hq := o_bind hR
        clear hR
        obtain ⟨a25, rfl, hR⟩ := hq
        have hq := o_bind hR
        clear hR
        obtain ⟨h26, hh27, hR⟩ := hq
        obtain ⟨n28, f29, he30, hi31, e32⟩ := pa_e hh27
        refine X_iast C rfl he30 hi31 dTi_letGo_48 ?_
        rw [← e32]
        refine X_aload_n C dTi_letGo_49 rfl ?_
        have hq := o_bind hR
        clear hR
        obtain ⟨w33, hx37, hR⟩ := hq
        obtain ⟨fs34, he35, hv36⟩ := gq_e hx37
        refine X_get (k := 2) C oTi fwTi_28 he35 hv36 dTi_letGo_50 ?_
        refine X_iconst (v := 3) C dTi_letGo_53 rfl ?_
        refine X_iload_n C dTi_letGo_54 rfl ?_
        have hq := o_bind hR
        clear hR
        obtain ⟨a38, rfl, hR⟩ := hq
        have hq := o_bind hR
        clear hR
        obtain ⟨h39, hh40, hR⟩ := hq
        obtain ⟨n41, f42, he43, hi44, e45⟩ := pa_e hh40
        refine X_iast C rfl he43 hi44 dTi_letGo_55 ?_
        rw [← e45]
        refine X_aload_n C dTi_letGo_56 rfl ?_
        have hq := o_bind hR
        clear hR
        obtain ⟨w46, hx50, hR⟩ := hq
        obtain ⟨fs47, he48, hv49⟩ := gq_e hx50
        refine X_get (k := 1) C oTi fwTi_21 he48 hv49 dTi_letGo_57 ?_
        refine X_aload_n C dTi_letGo_60 rfl ?_
        have hq := o_bind hR
        clear hR
        obtain ⟨w51, hx55, hR⟩ := hq
        obtain ⟨fs52, he53, hv54⟩ := gq_e hx55
        refine X_get (k := 2) C oTi fwTi_28 he53 hv54 dTi_letGo_61 ?_
        have hq := o_bind hR
        clear hR
        obtain ⟨a56, rfl, hR⟩ := hq
        have hq := o_if hR
        clear hR
        obtain ⟨k62, hR⟩ := hq
        obtain ⟨fs63, he64⟩ := kc_e k62
        have hq := o_bind hR
        clear hR
        obtain ⟨r57, hr57, hR⟩ := hq
        refine X_callVk (As := [va_rf (w51)]) (rest := []) C (Zo_loosen_c hr57) wTi_204 ⟨by decide, by decide⟩ ⟨Nat.le_refl _, Nat.le_refl _⟩ he64 oZo.2.1 rfl rfl (Nat.le_of_ble_eq_true rfl) dTi_letGo_64 ?_
        show X F G B _ 4 (r57.2) _ _ _ _ _ []
        refine X_aload_n C dTi_letGo_67 rfl ?_
        have hq := o_if hR
        clear hR
        obtain ⟨k59, hR⟩ := hq
        obtain ⟨fs60, he61⟩ := kc_e k59
        have hq := o_bind hR
        clear hR
        obtain ⟨r58, hr58, hR⟩ := hq
        refine X_callVk (As := []) (rest := []) C (Ti_handEmpty_c hr58) wTi_193 ⟨by decide, by decide⟩ ⟨Nat.le_refl _, Nat.le_refl _⟩ he61 oTi.2.1 rfl rfl (Nat.le_of_ble_eq_true rfl) dTi_letGo_68 ?_
        show X F G B _ 4 (r58.2) _ _ _ _ _ [.int (r58.1)]
        rw [← Option.some.inj hR]
        exact X_iret C hr (Nat.le_refl _) (Nat.le_refl _) dTi_letGo_71 ⟨rfl, rfl, rfl⟩
      · rw [if_pos c6] at hR
        refine X_iconst (v := (-1)) C dTi_letGo_33 rfl ?_
        rw [← Option.some.inj hR]
        exact X_iret C hr (Nat.le_refl _) (Nat.le_refl _) dTi_letGo_34 ⟨rfl, rfl, rfl⟩
theorem Ti_letGo_c {l : Launch} {G : xG} {B sz : Nat} {o : Nat} {n : Nat} {x1 : Int32} {x2 : Int32} {x3 : Int32} {h : xH} {R : Int32 × xH} (hR : Ti_letGo_f n o x1 x2 x3 h = some R) : xCon l yTi_letGo cTi_letGo 4 (some .int) 3 70 0 0 G B [.ref (o), .int (x1), .int (x2), .int (x3)] h sz (kP (some (.int R.1)) R.2 sz) := xCon.of (by decide) (by exact Nat.le_of_ble_eq_true rfl) (fun F e C hr hnm => X_sub (lv' := [(0, .ref (o)), (1, .int (x1)), (2, .int (x2)), (3, .int (x3))]) [0, 1, 2, 3] rfl (Ti_letGo_x C hr hR))
def Ti_meet_f (n : Nat) (o : Nat) (x1 : Int32) (h : xH) : Option (Int32 × xH) := obd (gq h (o) 4 0) (fun w1 => obd w1 (fun a6 => (if kc h (a6) 3 = true then obd (Ya_stateAt_f n (a6) (x1) h) (fun r7 => bnd (r7.1) (fun w8 => oel (w8) (some (((-1) : Int32), r7.2)) (fun a10 => obd (gq r7.2 (o) 4 1) (fun w12 => obd (gq r7.2 (a10) 2 3) (fun w17 => obd w12 (fun a22 => (if kc r7.2 (a22) 1 = true then obd (Zo_cutBy_f n 0 (a22) (w17) 0 0 r7.2) (fun r23 => (if kc r23.2 (o) 4 = true then obd (Ti_handEmpty_f n (o) r23.2) (fun r24 => some (r24.1, r24.2)) else none)) else none))))))) else none)))
set_option maxRecDepth 100000 in
set_option maxHeartbeats 8000000 in
theorem Ti_meet_x {F : xF} {G : xG} {B sz : Nat} {o : Nat} (C : xC F G B cTi_meet RTi 3 3 71 0 0) (hr : (xFM F).sig.returnType = (some .int)) {n : Nat} {x1 : Int32} {h : xH} {R : Int32 × xH} (hR : Ti_meet_f n o x1 h = some R) : X F G B (xZ F G B (kP (some (.int R.1)) R.2 sz) 0 0) 3 h sz 0 0 0 [(0, .ref (o)), (1, .int (x1))] [] := by
  unfold Ti_meet_f at hR
  refine X_aload_n C dTi_meet_0 rfl ?_
  have hq := o_bind hR
  clear hR
  obtain ⟨w1, hx5, hR⟩ := hq
  obtain ⟨fs2, he3, hv4⟩ := gq_e hx5
  refine X_get (k := 0) C oTi fwTi_10 he3 hv4 dTi_meet_1 ?_
  refine X_iload_n C dTi_meet_4 rfl ?_
  have hq := o_bind hR
  clear hR
  obtain ⟨a6, rfl, hR⟩ := hq
  have hq := o_if hR
  clear hR
  obtain ⟨k31, hR⟩ := hq
  obtain ⟨fs32, he33⟩ := kc_e k31
  have hq := o_bind hR
  clear hR
  obtain ⟨r7, hr7, hR⟩ := hq
  refine X_callVk (As := [.int (x1)]) (rest := []) C (Ya_stateAt_c hr7) wTi_121 ⟨by decide, by decide⟩ ⟨Nat.le_refl _, Nat.le_refl _⟩ he33 oYa.2.1 rfl rfl (Nat.le_of_ble_eq_true rfl) dTi_meet_5 ?_
  show X F G B _ 3 (r7.2) _ _ _ _ _ [va_rf (r7.1)]
  have hq := b_bnd hR
  clear hR
  obtain ⟨w8, e9, hR⟩ := hq
  rw [← e9]
  refine X_astore_nq (lv' := [(2, va_rf (w8)), (0, .ref (o)), (1, .int (x1))]) C dTi_meet_8 (by decide) rfl ?_
  refine X_aload_nq C dTi_meet_9 rfl ?_
  refine X_ifnonnullq (tgt := 15) C dTi_meet_10 (by decide) (fun a10 e11 => ?_) (fun e11 => ?_)
  · subst e11
    rw [oel_s] at hR
    refine X_aload_n C dTi_meet_15 rfl ?_
    have hq := o_bind hR
    clear hR
    obtain ⟨w12, hx16, hR⟩ := hq
    obtain ⟨fs13, he14, hv15⟩ := gq_e hx16
    refine X_get (k := 1) C oTi fwTi_21 he14 hv15 dTi_meet_16 ?_
    refine X_aload_n C dTi_meet_19 rfl ?_
    have hq := o_bind hR
    clear hR
    obtain ⟨w17, hx21, hR⟩ := hq
    obtain ⟨fs18, he19, hv20⟩ := gq_e hx21
    refine X_get (k := 3) C oSt fwTi_158 he19 hv20 dTi_meet_20 ?_
    have hq := o_bind hR
    clear hR
    obtain ⟨a22, rfl, hR⟩ := hq
    have hq := o_if hR
    clear hR
    obtain ⟨k28, hR⟩ := hq
    obtain ⟨fs29, he30⟩ := kc_e k28
    have hq := o_bind hR
    clear hR
    obtain ⟨r23, hr23, hR⟩ := hq
    refine X_callVk (As := [va_rf (w17)]) (rest := []) C (Zo_cutBy_c hr23) wTi_208 ⟨by decide, by decide⟩ ⟨Nat.le_refl _, Nat.le_refl _⟩ he30 oZo.2.1 rfl rfl (Nat.le_of_ble_eq_true rfl) dTi_meet_23 ?_
    show X F G B _ 3 (r23.2) _ _ _ _ _ []
    refine X_aload_n C dTi_meet_26 rfl ?_
    have hq := o_if hR
    clear hR
    obtain ⟨k25, hR⟩ := hq
    obtain ⟨fs26, he27⟩ := kc_e k25
    have hq := o_bind hR
    clear hR
    obtain ⟨r24, hr24, hR⟩ := hq
    refine X_callVk (As := []) (rest := []) C (Ti_handEmpty_c hr24) wTi_193 ⟨by decide, by decide⟩ ⟨Nat.le_refl _, Nat.le_refl _⟩ he27 oTi.2.1 rfl rfl (Nat.le_of_ble_eq_true rfl) dTi_meet_27 ?_
    show X F G B _ 3 (r24.2) _ _ _ _ _ [.int (r24.1)]
    rw [← Option.some.inj hR]
    exact X_iret C hr (Nat.le_refl _) (Nat.le_refl _) dTi_meet_30 ⟨rfl, rfl, rfl⟩
  · subst e11
    rw [oel_n] at hR
    refine X_iconst (v := (-1)) C dTi_meet_13 rfl ?_
    rw [← Option.some.inj hR]
    exact X_iret C hr (Nat.le_refl _) (Nat.le_refl _) dTi_meet_14 ⟨rfl, rfl, rfl⟩
theorem Ti_meet_c {l : Launch} {G : xG} {B sz : Nat} {o : Nat} {n : Nat} {x1 : Int32} {h : xH} {R : Int32 × xH} (hR : Ti_meet_f n o x1 h = some R) : xCon l yTi_meet cTi_meet 3 (some .int) 3 71 0 0 G B [.ref (o), .int (x1)] h sz (kP (some (.int R.1)) R.2 sz) := xCon.of (by decide) (by exact Nat.le_of_ble_eq_true rfl) (fun F e C hr hnm => X_sub (lv' := [(0, .ref (o)), (1, .int (x1))]) [0, 1] rfl (Ti_meet_x C hr hR))
def Ti_within_f (n : Nat) (o : Nat) (x1 : Int32) (h : xH) : Option (Int32 × xH) := obd (gq h (o) 4 0) (fun w1 => obd w1 (fun a6 => (if kc h (a6) 3 = true then obd (Ya_stateAt_f n (a6) (x1) h) (fun r7 => bnd (r7.1) (fun w8 => oel (w8) (some (((-1) : Int32), r7.2)) (fun a10 => obd (gq r7.2 (o) 4 1) (fun w12 => obd (gq r7.2 (a10) 2 3) (fun w17 => obd w12 (fun a22 => (if kc r7.2 (a22) 1 = true then obd (Zo_liesIn_f n 0 (a22) (w17) 0 r7.2) (fun r23 => (if r23.1 = 0 then obd (gq r23.2 (a10) 2 3) (fun w25 => obd (gq r23.2 (o) 4 1) (fun w30 => obd w25 (fun a35 => (if kc r23.2 (a35) 1 = true then obd (Zo_liesIn_f n 0 (a35) (w30) 0 r23.2) (fun r36 => (if r36.1 = 0 then some (((0 : Int32)) + ((0 : Int32)), r36.2) else some (((0 : Int32)) + ((2 : Int32)), r36.2))) else none)))) else obd (gq r23.2 (a10) 2 3) (fun w41 => obd (gq r23.2 (o) 4 1) (fun w46 => obd w41 (fun a51 => (if kc r23.2 (a51) 1 = true then obd (Zo_liesIn_f n 0 (a51) (w46) 0 r23.2) (fun r52 => (if r52.1 = 0 then some (((1 : Int32)) + ((0 : Int32)), r52.2) else some (((1 : Int32)) + ((2 : Int32)), r52.2))) else none)))))) else none))))))) else none)))
set_option maxRecDepth 100000 in
set_option maxHeartbeats 8000000 in
theorem Ti_within_x {F : xF} {G : xG} {B sz : Nat} {o : Nat} (C : xC F G B cTi_within RTi 3 1 22 0 0) (hr : (xFM F).sig.returnType = (some .int)) {n : Nat} {x1 : Int32} {h : xH} {R : Int32 × xH} (hR : Ti_within_f n o x1 h = some R) : X F G B (xZ F G B (kP (some (.int R.1)) R.2 sz) 0 0) 3 h sz 0 0 0 [(0, .ref (o)), (1, .int (x1))] [] := by
  unfold Ti_within_f at hR
  refine X_aload_n C dTi_within_0 rfl ?_
  have hq := o_bind hR
  clear hR
  obtain ⟨w1, hx5, hR⟩ := hq
  obtain ⟨fs2, he3, hv4⟩ := gq_e hx5
  refine X_get (k := 0) C oTi fwTi_10 he3 hv4 dTi_within_1 ?_
  refine X_iload_n C dTi_within_4 rfl ?_
  have hq := o_bind hR
  clear hR
  obtain ⟨a6, rfl, hR⟩ := hq
  have hq := o_if hR
  clear hR
  obtain ⟨k60, hR⟩ := hq
  obtain ⟨fs61, he62⟩ := kc_e k60
  have hq := o_bind hR
  clear hR
  obtain ⟨r7, hr7, hR⟩ := hq
  refine X_callVk (As := [.int (x1)]) (rest := []) C (Ya_stateAt_c hr7) wTi_121 ⟨by decide, by decide⟩ ⟨Nat.le_refl _, Nat.le_refl _⟩ he62 oYa.2.1 rfl rfl (Nat.le_of_ble_eq_true rfl) dTi_within_5 ?_
  show X F G B _ 3 (r7.2) _ _ _ _ _ [va_rf (r7.1)]
  have hq := b_bnd hR
  clear hR
  obtain ⟨w8, e9, hR⟩ := hq
  rw [← e9]
  refine X_astore_nq (lv' := [(2, va_rf (w8)), (0, .ref (o)), (1, .int (x1))]) C dTi_within_8 (by decide) rfl ?_
  refine X_aload_nq C dTi_within_9 rfl ?_
  refine X_ifnonnullq (tgt := 15) C dTi_within_10 (by decide) (fun a10 e11 => ?_) (fun e11 => ?_)
  · subst e11
    rw [oel_s] at hR
    refine X_aload_n C dTi_within_15 rfl ?_
    have hq := o_bind hR
    clear hR
    obtain ⟨w12, hx16, hR⟩ := hq
    obtain ⟨fs13, he14, hv15⟩ := gq_e hx16
    refine X_get (k := 1) C oTi fwTi_21 he14 hv15 dTi_within_16 ?_
    refine X_aload_n C dTi_within_19 rfl ?_
    have hq := o_bind hR
    clear hR
    obtain ⟨w17, hx21, hR⟩ := hq
    obtain ⟨fs18, he19, hv20⟩ := gq_e hx21
    refine X_get (k := 3) C oSt fwTi_158 he19 hv20 dTi_within_20 ?_
    have hq := o_bind hR
    clear hR
    obtain ⟨a22, rfl, hR⟩ := hq
    have hq := o_if hR
    clear hR
    obtain ⟨k57, hR⟩ := hq
    obtain ⟨fs58, he59⟩ := kc_e k57
    have hq := o_bind hR
    clear hR
    obtain ⟨r23, hr23, hR⟩ := hq
    refine X_callVk (As := [va_rf (w17)]) (rest := []) C (Zo_liesIn_c hr23) wTi_211 ⟨by decide, by decide⟩ ⟨Nat.le_refl _, Nat.le_refl _⟩ he59 oZo.2.1 rfl rfl (Nat.le_of_ble_eq_true rfl) dTi_within_23 ?_
    show X F G B _ 3 (r23.2) _ _ _ _ _ [.int (r23.1)]
    refine X_if_eq (tgt := 33) C dTi_within_26 (by decide) (fun c24 => ?_) (fun c24 => ?_)
    · rw [if_pos c24] at hR
      refine X_iconst (v := 0) C dTi_within_33 rfl ?_
      refine X_aload_n C dTi_within_34 rfl ?_
      have hq := o_bind hR
      clear hR
      obtain ⟨w25, hx29, hR⟩ := hq
      obtain ⟨fs26, he27, hv28⟩ := gq_e hx29
      refine X_get (k := 3) C oSt fwTi_158 he27 hv28 dTi_within_35 ?_
      refine X_aload_n C dTi_within_38 rfl ?_
      have hq := o_bind hR
      clear hR
      obtain ⟨w30, hx34, hR⟩ := hq
      obtain ⟨fs31, he32, hv33⟩ := gq_e hx34
      refine X_get (k := 1) C oTi fwTi_21 he32 hv33 dTi_within_39 ?_
      have hq := o_bind hR
      clear hR
      obtain ⟨a35, rfl, hR⟩ := hq
      have hq := o_if hR
      clear hR
      obtain ⟨k38, hR⟩ := hq
      obtain ⟨fs39, he40⟩ := kc_e k38
      have hq := o_bind hR
      clear hR
      obtain ⟨r36, hr36, hR⟩ := hq
      refine X_callVk (As := [va_rf (w30)]) (rest := [.int ((0 : Int32))]) C (Zo_liesIn_c hr36) wTi_211 ⟨by decide, by decide⟩ ⟨Nat.le_refl _, Nat.le_refl _⟩ he40 oZo.2.1 rfl rfl (Nat.le_of_ble_eq_true rfl) dTi_within_42 ?_
      show X F G B _ 3 (r36.2) _ _ _ _ _ [.int (r36.1), .int ((0 : Int32))]
      refine X_if_eq (tgt := 52) C dTi_within_45 (by decide) (fun c37 => ?_) (fun c37 => ?_)
      · rw [if_pos c37] at hR
        refine X_iconst (v := 0) C dTi_within_52 rfl ?_
        refine X_iadd C dTi_within_53 ?_
        rw [← Option.some.inj hR]
        exact X_iret C hr (Nat.le_refl _) (Nat.le_refl _) dTi_within_54 ⟨rfl, rfl, rfl⟩
      · rw [if_neg c37] at hR
        refine X_iconst (v := 2) C dTi_within_48 rfl ?_
        refine X_goto (tgt := 53) C dTi_within_49 (by decide) ?_
        refine X_iadd C dTi_within_53 ?_
        rw [← Option.some.inj hR]
        exact X_iret C hr (Nat.le_refl _) (Nat.le_refl _) dTi_within_54 ⟨rfl, rfl, rfl⟩
    · rw [if_neg c24] at hR
      refine X_iconst (v := 1) C dTi_within_29 rfl ?_
      refine X_goto (tgt := 34) C dTi_within_30 (by decide) ?_
      refine X_aload_n C dTi_within_34 rfl ?_
      have hq := o_bind hR
      clear hR
      obtain ⟨w41, hx45, hR⟩ := hq
      obtain ⟨fs42, he43, hv44⟩ := gq_e hx45
      refine X_get (k := 3) C oSt fwTi_158 he43 hv44 dTi_within_35 ?_
      refine X_aload_n C dTi_within_38 rfl ?_
      have hq := o_bind hR
      clear hR
      obtain ⟨w46, hx50, hR⟩ := hq
      obtain ⟨fs47, he48, hv49⟩ := gq_e hx50
      refine X_get (k := 1) C oTi fwTi_21 he48 hv49 dTi_within_39 ?_
      have hq := o_bind hR
      clear hR
      obtain ⟨a51, rfl, hR⟩ := hq
      have hq := o_if hR
      clear hR
      obtain ⟨k54, hR⟩ := hq
      obtain ⟨fs55, he56⟩ := kc_e k54
      have hq := o_bind hR
      clear hR
      obtain ⟨r52, hr52, hR⟩ := hq
      refine X_callVk (As := [va_rf (w46)]) (rest := [.int ((1 : Int32))]) C (Zo_liesIn_c hr52) wTi_211 ⟨by decide, by decide⟩ ⟨Nat.le_refl _, Nat.le_refl _⟩ he56 oZo.2.1 rfl rfl (Nat.le_of_ble_eq_true rfl) dTi_within_42 ?_
      show X F G B _ 3 (r52.2) _ _ _ _ _ [.int (r52.1), .int ((1 : Int32))]
      refine X_if_eq (tgt := 52) C dTi_within_45 (by decide) (fun c53 => ?_) (fun c53 => ?_)
      · rw [if_pos c53] at hR
        refine X_iconst (v := 0) C dTi_within_52 rfl ?_
        refine X_iadd C dTi_within_53 ?_
        rw [← Option.some.inj hR]
        exact X_iret C hr (Nat.le_refl _) (Nat.le_refl _) dTi_within_54 ⟨rfl, rfl, rfl⟩
      · rw [if_neg c53] at hR
        refine X_iconst (v := 2) C dTi_within_48 rfl ?_
        refine X_goto (tgt := 53) C dTi_within_49 (by decide) ?_
        refine X_iadd C dTi_within_53 ?_
        rw [← Option.some.inj hR]
        exact X_iret C hr (Nat.le_refl _) (Nat.le_refl _) dTi_within_54 ⟨rfl, rfl, rfl⟩
  · subst e11
    rw [oel_n] at hR
    refine X_iconst (v := (-1)) C dTi_within_13 rfl ?_
    rw [← Option.some.inj hR]
    exact X_iret C hr (Nat.le_refl _) (Nat.le_refl _) dTi_within_14 ⟨rfl, rfl, rfl⟩
theorem Ti_within_c {l : Launch} {G : xG} {B sz : Nat} {o : Nat} {n : Nat} {x1 : Int32} {h : xH} {R : Int32 × xH} (hR : Ti_within_f n o x1 h = some R) : xCon l yTi_within cTi_within 3 (some .int) 1 22 0 0 G B [.ref (o), .int (x1)] h sz (kP (some (.int R.1)) R.2 sz) := xCon.of (by decide) (by exact Nat.le_of_ble_eq_true rfl) (fun F e C hr hnm => X_sub (lv' := [(0, .ref (o)), (1, .int (x1))]) [0, 1] rfl (Ti_within_x C hr hR))
def Ti_count_f (n : Nat) (o : Nat) (x1 : Int32) (h : xH) : Option (Int32 × xH) := (if x1 = 0 then obd (gq h (o) 4 0) (fun w2 => obd w2 (fun a7 => obd (gi h (a7) 3 1) (fun u8 => some (u8, h)))) else (if x1 = 1 then obd (gq h (o) 4 0) (fun w14 => obd w14 (fun a19 => obd (gi h (a19) 3 3) (fun u20 => some (u20, h)))) else (if x1 = 2 then obd (gq h (o) 4 0) (fun w26 => obd w26 (fun a31 => obd (gi h (a31) 3 4) (fun u32 => some (u32, h)))) else (if x1 = 3 then obd (gq h (o) 4 0) (fun w38 => obd w38 (fun a43 => obd (gi h (a43) 3 5) (fun u44 => some (u44, h)))) else (if x1 = 4 then obd (gq h (o) 4 0) (fun w50 => obd w50 (fun a55 => obd (gi h (a55) 3 6) (fun u56 => some (u56, h)))) else (if x1 = 5 then obd (gq h (o) 4 0) (fun w62 => obd w62 (fun a67 => obd (gi h (a67) 3 8) (fun u68 => (if u68 = 0 then some (((-2) : Int32), h) else obd (gq h (o) 4 0) (fun w74 => obd w74 (fun a79 => obd (gq h (a79) 3 9) (fun w80 => obd w80 (fun a85 => obd (ai h (a85) 0 ((x1) - ((4 : Int32)))) (fun u86 => some (u86, h)))))))))) else (if x1 = 6 then obd (gq h (o) 4 0) (fun w94 => obd w94 (fun a99 => obd (gi h (a99) 3 8) (fun u100 => (if u100 = 0 then some (((-2) : Int32), h) else obd (gq h (o) 4 0) (fun w106 => obd w106 (fun a111 => obd (gq h (a111) 3 9) (fun w112 => obd w112 (fun a117 => obd (ai h (a117) 0 ((x1) - ((4 : Int32)))) (fun u118 => some (u118, h)))))))))) else (if x1 = 7 then obd (gq h (o) 4 0) (fun w126 => obd w126 (fun a131 => obd (gi h (a131) 3 8) (fun u132 => (if u132 = 0 then some (((-2) : Int32), h) else obd (gq h (o) 4 0) (fun w138 => obd w138 (fun a143 => obd (gq h (a143) 3 9) (fun w144 => obd w144 (fun a149 => obd (ai h (a149) 0 ((x1) - ((4 : Int32)))) (fun u150 => some (u150, h)))))))))) else some (((-1) : Int32), h)))))))))
set_option maxRecDepth 100000 in
set_option maxHeartbeats 8000000 in
theorem Ti_count_x {F : xF} {G : xG} {B sz : Nat} {o : Nat} (C : xC F G B cTi_count RTi 2 0 0 0 0) (hr : (xFM F).sig.returnType = (some .int)) {n : Nat} {x1 : Int32} {h : xH} {R : Int32 × xH} (hR : Ti_count_f n o x1 h = some R) : X F G B (xZ F G B (kP (some (.int R.1)) R.2 sz) 0 0) 2 h sz 0 0 0 [(0, .ref (o)), (1, .int (x1))] [] := by
  unfold Ti_count_f at hR
  refine X_iload_n C dTi_count_0 rfl ?_
  by_cases c1 : x1 = 0
  · rw [if_pos c1] at hR
    refine X_tableIn (off := 47) (tgt := 48) C dTi_count_1 (by rw [c1]; decide) (by rw [c1]; decide) (by rw [c1]; rfl) (by decide) ?_
    refine X_aload_n C dTi_count_48 rfl ?_
    have hq := o_bind hR
    clear hR
    obtain ⟨w2, hx6, hR⟩ := hq
    obtain ⟨fs3, he4, hv5⟩ := gq_e hx6
    refine X_get (k := 0) C oTi fwTi_10 he4 hv5 dTi_count_49 ?_
    have hq := o_bind hR
    clear hR
    obtain ⟨a7, rfl, hR⟩ := hq
    have hq := o_bind hR
    clear hR
    obtain ⟨u8, hx12, hR⟩ := hq
    obtain ⟨fs9, he10, hv11⟩ := gi_e hx12
    refine X_get (k := 1) C oYa fwTi_38 he10 hv11 dTi_count_52 ?_
    rw [← Option.some.inj hR]
    exact X_iret C hr (Nat.le_refl _) (Nat.le_refl _) dTi_count_55 ⟨rfl, rfl, rfl⟩
  · rw [if_neg c1] at hR
    by_cases c13 : x1 = 1
    · rw [if_pos c13] at hR
      refine X_tableIn (off := 55) (tgt := 56) C dTi_count_1 (by rw [c13]; decide) (by rw [c13]; decide) (by rw [c13]; rfl) (by decide) ?_
      refine X_aload_n C dTi_count_56 rfl ?_
      have hq := o_bind hR
      clear hR
      obtain ⟨w14, hx18, hR⟩ := hq
      obtain ⟨fs15, he16, hv17⟩ := gq_e hx18
      refine X_get (k := 0) C oTi fwTi_10 he16 hv17 dTi_count_57 ?_
      have hq := o_bind hR
      clear hR
      obtain ⟨a19, rfl, hR⟩ := hq
      have hq := o_bind hR
      clear hR
      obtain ⟨u20, hx24, hR⟩ := hq
      obtain ⟨fs21, he22, hv23⟩ := gi_e hx24
      refine X_get (k := 3) C oYa fwTi_129 he22 hv23 dTi_count_60 ?_
      rw [← Option.some.inj hR]
      exact X_iret C hr (Nat.le_refl _) (Nat.le_refl _) dTi_count_63 ⟨rfl, rfl, rfl⟩
    · rw [if_neg c13] at hR
      by_cases c25 : x1 = 2
      · rw [if_pos c25] at hR
        refine X_tableIn (off := 63) (tgt := 64) C dTi_count_1 (by rw [c25]; decide) (by rw [c25]; decide) (by rw [c25]; rfl) (by decide) ?_
        refine X_aload_n C dTi_count_64 rfl ?_
        have hq := o_bind hR
        clear hR
        obtain ⟨w26, hx30, hR⟩ := hq
        obtain ⟨fs27, he28, hv29⟩ := gq_e hx30
        refine X_get (k := 0) C oTi fwTi_10 he28 hv29 dTi_count_65 ?_
        have hq := o_bind hR
        clear hR
        obtain ⟨a31, rfl, hR⟩ := hq
        have hq := o_bind hR
        clear hR
        obtain ⟨u32, hx36, hR⟩ := hq
        obtain ⟨fs33, he34, hv35⟩ := gi_e hx36
        refine X_get (k := 4) C oYa fwTi_142 he34 hv35 dTi_count_68 ?_
        rw [← Option.some.inj hR]
        exact X_iret C hr (Nat.le_refl _) (Nat.le_refl _) dTi_count_71 ⟨rfl, rfl, rfl⟩
      · rw [if_neg c25] at hR
        by_cases c37 : x1 = 3
        · rw [if_pos c37] at hR
          refine X_tableIn (off := 71) (tgt := 72) C dTi_count_1 (by rw [c37]; decide) (by rw [c37]; decide) (by rw [c37]; rfl) (by decide) ?_
          refine X_aload_n C dTi_count_72 rfl ?_
          have hq := o_bind hR
          clear hR
          obtain ⟨w38, hx42, hR⟩ := hq
          obtain ⟨fs39, he40, hv41⟩ := gq_e hx42
          refine X_get (k := 0) C oTi fwTi_10 he40 hv41 dTi_count_73 ?_
          have hq := o_bind hR
          clear hR
          obtain ⟨a43, rfl, hR⟩ := hq
          have hq := o_bind hR
          clear hR
          obtain ⟨u44, hx48, hR⟩ := hq
          obtain ⟨fs45, he46, hv47⟩ := gi_e hx48
          refine X_get (k := 5) C oYa fwTi_218 he46 hv47 dTi_count_76 ?_
          rw [← Option.some.inj hR]
          exact X_iret C hr (Nat.le_refl _) (Nat.le_refl _) dTi_count_79 ⟨rfl, rfl, rfl⟩
        · rw [if_neg c37] at hR
          by_cases c49 : x1 = 4
          · rw [if_pos c49] at hR
            refine X_tableIn (off := 79) (tgt := 80) C dTi_count_1 (by rw [c49]; decide) (by rw [c49]; decide) (by rw [c49]; rfl) (by decide) ?_
            refine X_aload_n C dTi_count_80 rfl ?_
            have hq := o_bind hR
            clear hR
            obtain ⟨w50, hx54, hR⟩ := hq
            obtain ⟨fs51, he52, hv53⟩ := gq_e hx54
            refine X_get (k := 0) C oTi fwTi_10 he52 hv53 dTi_count_81 ?_
            have hq := o_bind hR
            clear hR
            obtain ⟨a55, rfl, hR⟩ := hq
            have hq := o_bind hR
            clear hR
            obtain ⟨u56, hx60, hR⟩ := hq
            obtain ⟨fs57, he58, hv59⟩ := gi_e hx60
            refine X_get (k := 6) C oYa fwTi_219 he58 hv59 dTi_count_84 ?_
            rw [← Option.some.inj hR]
            exact X_iret C hr (Nat.le_refl _) (Nat.le_refl _) dTi_count_87 ⟨rfl, rfl, rfl⟩
          · rw [if_neg c49] at hR
            by_cases c61 : x1 = 5
            · rw [if_pos c61] at hR
              refine X_tableIn (off := 87) (tgt := 88) C dTi_count_1 (by rw [c61]; decide) (by rw [c61]; decide) (by rw [c61]; rfl) (by decide) ?_
              refine X_aload_n C dTi_count_88 rfl ?_
              have hq := o_bind hR
              clear hR
              obtain ⟨w62, hx66, hR⟩ := hq
              obtain ⟨fs63, he64, hv65⟩ := gq_e hx66
              refine X_get (k := 0) C oTi fwTi_10 he64 hv65 dTi_count_89 ?_
              have hq := o_bind hR
              clear hR
              obtain ⟨a67, rfl, hR⟩ := hq
              have hq := o_bind hR
              clear hR
              obtain ⟨u68, hx72, hR⟩ := hq
              obtain ⟨fs69, he70, hv71⟩ := gi_e hx72
              refine X_get (k := 8) C oYa fwTi_222 he70 hv71 dTi_count_92 ?_
              refine X_if_eq (tgt := 112) C dTi_count_95 (by decide) (fun c73 => ?_) (fun c73 => ?_)
              · rw [if_pos c73] at hR
                refine X_bipush (v := (-2)) C dTi_count_112 (by decide) ?_
                rw [← Option.some.inj hR]
                exact X_iret C hr (Nat.le_refl _) (Nat.le_refl _) dTi_count_114 ⟨rfl, rfl, rfl⟩
              · rw [if_neg c73] at hR
                refine X_aload_n C dTi_count_98 rfl ?_
                have hq := o_bind hR
                clear hR
                obtain ⟨w74, hx78, hR⟩ := hq
                obtain ⟨fs75, he76, hv77⟩ := gq_e hx78
                refine X_get (k := 0) C oTi fwTi_10 he76 hv77 dTi_count_99 ?_
                have hq := o_bind hR
                clear hR
                obtain ⟨a79, rfl, hR⟩ := hq
                have hq := o_bind hR
                clear hR
                obtain ⟨w80, hx84, hR⟩ := hq
                obtain ⟨fs81, he82, hv83⟩ := gq_e hx84
                refine X_get (k := 9) C oYa fwTi_225 he82 hv83 dTi_count_102 ?_
                refine X_iload_n C dTi_count_105 rfl ?_
                refine X_iconst (v := 4) C dTi_count_106 rfl ?_
                refine X_isub C dTi_count_107 ?_
                have hq := o_bind hR
                clear hR
                obtain ⟨a85, rfl, hR⟩ := hq
                have hq := o_bind hR
                clear hR
                obtain ⟨u86, hx87, hR⟩ := hq
                obtain ⟨n88, f89, he90, hi91, e92⟩ := ai_e hx87
                refine X_iald C rfl he90 hi91 dTi_count_108 ?_
                rw [← e92]
                refine X_goto (tgt := 114) C dTi_count_109 (by decide) ?_
                rw [← Option.some.inj hR]
                exact X_iret C hr (Nat.le_refl _) (Nat.le_refl _) dTi_count_114 ⟨rfl, rfl, rfl⟩
            · rw [if_neg c61] at hR
              by_cases c93 : x1 = 6
              · rw [if_pos c93] at hR
                refine X_tableIn (off := 87) (tgt := 88) C dTi_count_1 (by rw [c93]; decide) (by rw [c93]; decide) (by rw [c93]; rfl) (by decide) ?_
                refine X_aload_n C dTi_count_88 rfl ?_
                have hq := o_bind hR
                clear hR
                obtain ⟨w94, hx98, hR⟩ := hq
                obtain ⟨fs95, he96, hv97⟩ := gq_e hx98
                refine X_get (k := 0) C oTi fwTi_10 he96 hv97 dTi_count_89 ?_
                have hq := o_bind hR
                clear hR
                obtain ⟨a99, rfl, hR⟩ := hq
                have hq := o_bind hR
                clear hR
                obtain ⟨u100, hx104, hR⟩ := hq
                obtain ⟨fs101, he102, hv103⟩ := gi_e hx104
                refine X_get (k := 8) C oYa fwTi_222 he102 hv103 dTi_count_92 ?_
                refine X_if_eq (tgt := 112) C dTi_count_95 (by decide) (fun c105 => ?_) (fun c105 => ?_)
                · rw [if_pos c105] at hR
                  refine X_bipush (v := (-2)) C dTi_count_112 (by decide) ?_
                  rw [← Option.some.inj hR]
                  exact X_iret C hr (Nat.le_refl _) (Nat.le_refl _) dTi_count_114 ⟨rfl, rfl, rfl⟩
                · rw [if_neg c105] at hR
                  refine X_aload_n C dTi_count_98 rfl ?_
                  have hq := o_bind hR
                  clear hR
                  obtain ⟨w106, hx110, hR⟩ := hq
                  obtain ⟨fs107, he108, hv109⟩ := gq_e hx110
                  refine X_get (k := 0) C oTi fwTi_10 he108 hv109 dTi_count_99 ?_
                  have hq := o_bind hR
                  clear hR
                  obtain ⟨a111, rfl, hR⟩ := hq
                  have hq := o_bind hR
                  clear hR
                  obtain ⟨w112, hx116, hR⟩ := hq
                  obtain ⟨fs113, he114, hv115⟩ := gq_e hx116
                  refine X_get (k := 9) C oYa fwTi_225 he114 hv115 dTi_count_102 ?_
                  refine X_iload_n C dTi_count_105 rfl ?_
                  refine X_iconst (v := 4) C dTi_count_106 rfl ?_
                  refine X_isub C dTi_count_107 ?_
                  have hq := o_bind hR
                  clear hR
                  obtain ⟨a117, rfl, hR⟩ := hq
                  have hq := o_bind hR
                  clear hR
                  obtain ⟨u118, hx119, hR⟩ := hq
                  obtain ⟨n120, f121, he122, hi123, e124⟩ := ai_e hx119
                  refine X_iald C rfl he122 hi123 dTi_count_108 ?_
                  rw [← e124]
                  refine X_goto (tgt := 114) C dTi_count_109 (by decide) ?_
                  rw [← Option.some.inj hR]
                  exact X_iret C hr (Nat.le_refl _) (Nat.le_refl _) dTi_count_114 ⟨rfl, rfl, rfl⟩
              · rw [if_neg c93] at hR
                by_cases c125 : x1 = 7
                · rw [if_pos c125] at hR
                  refine X_tableIn (off := 87) (tgt := 88) C dTi_count_1 (by rw [c125]; decide) (by rw [c125]; decide) (by rw [c125]; rfl) (by decide) ?_
                  refine X_aload_n C dTi_count_88 rfl ?_
                  have hq := o_bind hR
                  clear hR
                  obtain ⟨w126, hx130, hR⟩ := hq
                  obtain ⟨fs127, he128, hv129⟩ := gq_e hx130
                  refine X_get (k := 0) C oTi fwTi_10 he128 hv129 dTi_count_89 ?_
                  have hq := o_bind hR
                  clear hR
                  obtain ⟨a131, rfl, hR⟩ := hq
                  have hq := o_bind hR
                  clear hR
                  obtain ⟨u132, hx136, hR⟩ := hq
                  obtain ⟨fs133, he134, hv135⟩ := gi_e hx136
                  refine X_get (k := 8) C oYa fwTi_222 he134 hv135 dTi_count_92 ?_
                  refine X_if_eq (tgt := 112) C dTi_count_95 (by decide) (fun c137 => ?_) (fun c137 => ?_)
                  · rw [if_pos c137] at hR
                    refine X_bipush (v := (-2)) C dTi_count_112 (by decide) ?_
                    rw [← Option.some.inj hR]
                    exact X_iret C hr (Nat.le_refl _) (Nat.le_refl _) dTi_count_114 ⟨rfl, rfl, rfl⟩
                  · rw [if_neg c137] at hR
                    refine X_aload_n C dTi_count_98 rfl ?_
                    have hq := o_bind hR
                    clear hR
                    obtain ⟨w138, hx142, hR⟩ := hq
                    obtain ⟨fs139, he140, hv141⟩ := gq_e hx142
                    refine X_get (k := 0) C oTi fwTi_10 he140 hv141 dTi_count_99 ?_
                    have hq := o_bind hR
                    clear hR
                    obtain ⟨a143, rfl, hR⟩ := hq
                    have hq := o_bind hR
                    clear hR
                    obtain ⟨w144, hx148, hR⟩ := hq
                    obtain ⟨fs145, he146, hv147⟩ := gq_e hx148
                    refine X_get (k := 9) C oYa fwTi_225 he146 hv147 dTi_count_102 ?_
                    refine X_iload_n C dTi_count_105 rfl ?_
                    refine X_iconst (v := 4) C dTi_count_106 rfl ?_
                    refine X_isub C dTi_count_107 ?_
                    have hq := o_bind hR
                    clear hR
                    obtain ⟨a149, rfl, hR⟩ := hq
                    have hq := o_bind hR
                    clear hR
                    obtain ⟨u150, hx151, hR⟩ := hq
                    obtain ⟨n152, f153, he154, hi155, e156⟩ := ai_e hx151
                    refine X_iald C rfl he154 hi155 dTi_count_108 ?_
                    rw [← e156]
                    refine X_goto (tgt := 114) C dTi_count_109 (by decide) ?_
                    rw [← Option.some.inj hR]
                    exact X_iret C hr (Nat.le_refl _) (Nat.le_refl _) dTi_count_114 ⟨rfl, rfl, rfl⟩
                · rw [if_neg c125] at hR
                  have ec1 := lv_neT (a := 0) c1 (by decide)
                  have ec13 := lv_neT (a := 1) c13 (by decide)
                  have ec25 := lv_neT (a := 2) c25 (by decide)
                  have ec37 := lv_neT (a := 3) c37 (by decide)
                  have ec49 := lv_neT (a := 4) c49 (by decide)
                  have ec61 := lv_neT (a := 5) c61 (by decide)
                  have ec93 := lv_neT (a := 6) c93 (by decide)
                  have ec125 := lv_neT (a := 7) c125 (by decide)
                  refine X_tableOut (tgt := 115) C dTi_count_1 (by omega) (by decide) ?_
                  refine X_iconst (v := (-1)) C dTi_count_115 rfl ?_
                  rw [← Option.some.inj hR]
                  exact X_iret C hr (Nat.le_refl _) (Nat.le_refl _) dTi_count_116 ⟨rfl, rfl, rfl⟩
theorem Ti_count_c {l : Launch} {G : xG} {B sz : Nat} {o : Nat} {n : Nat} {x1 : Int32} {h : xH} {R : Int32 × xH} (hR : Ti_count_f n o x1 h = some R) : xCon l yTi_count cTi_count 2 (some .int) 0 0 0 0 G B [.ref (o), .int (x1)] h sz (kP (some (.int R.1)) R.2 sz) := xCon.of (by decide) (by exact Nat.le_of_ble_eq_true rfl) (fun F e C hr hnm => X_sub (lv' := [(0, .ref (o)), (1, .int (x1))]) [0, 1] rfl (Ti_count_x C hr hR))
def Ti_isShelf_f (n : Nat) (x0 : Int32) (h : xH) : Option (Int32 × xH) := (if x0 < 0 then some ((0 : Int32), h) else (if (8 : Int32) ≤ x0 then some ((0 : Int32), h) else some ((1 : Int32), h)))
set_option maxRecDepth 100000 in
set_option maxHeartbeats 8000000 in
theorem Ti_isShelf_x {F : xF} {G : xG} {B sz : Nat} (C : xC F G B cTi_isShelf RTi 1 0 0 0 0) (hr : (xFM F).sig.returnType = (some .boolean)) {n : Nat} {x0 : Int32} {h : xH} {R : Int32 × xH} (hR : Ti_isShelf_f n x0 h = some R) : X F G B (xZ F G B (kP (some (.int R.1)) R.2 sz) 0 0) 1 h sz 0 0 0 [(0, .int (x0))] [] := by
  unfold Ti_isShelf_f at hR
  refine X_iload_n C dTi_isShelf_0 rfl ?_
  refine X_if_lt (tgt := 14) C dTi_isShelf_1 (by decide) (fun c1 => ?_) (fun c1 => ?_)
  · rw [if_pos c1] at hR
    refine X_iconst (v := 0) C dTi_isShelf_14 rfl ?_
    rw [← Option.some.inj hR]
    exact X_zret C hr rfl (Nat.le_refl _) (Nat.le_refl _) dTi_isShelf_15 ⟨rfl, rfl, rfl⟩
  · rw [if_neg c1] at hR
    refine X_iload_n C dTi_isShelf_4 rfl ?_
    refine X_bipush (v := 8) C dTi_isShelf_5 (by decide) ?_
    refine X_icmp_ge (tgt := 14) C dTi_isShelf_7 (by decide) (fun c2 => ?_) (fun c2 => ?_)
    · rw [if_pos c2] at hR
      refine X_iconst (v := 0) C dTi_isShelf_14 rfl ?_
      rw [← Option.some.inj hR]
      exact X_zret C hr rfl (Nat.le_refl _) (Nat.le_refl _) dTi_isShelf_15 ⟨rfl, rfl, rfl⟩
    · rw [if_neg c2] at hR
      refine X_iconst (v := 1) C dTi_isShelf_10 rfl ?_
      refine X_goto (tgt := 15) C dTi_isShelf_11 (by decide) ?_
      rw [← Option.some.inj hR]
      exact X_zret C hr rfl (Nat.le_refl _) (Nat.le_refl _) dTi_isShelf_15 ⟨rfl, rfl, rfl⟩
theorem Ti_isShelf_c {l : Launch} {G : xG} {B sz : Nat} {n : Nat} {x0 : Int32} {h : xH} {R : Int32 × xH} (hR : Ti_isShelf_f n x0 h = some R) : xCon l yTi_isShelf cTi_isShelf 1 (some .boolean) 0 0 0 0 G B [.int (x0)] h sz (kP (some (.int R.1)) R.2 sz) := xCon.of (by decide) (by exact Nat.le_of_ble_eq_true rfl) (fun F e C hr hnm => X_sub (lv' := [(0, .int (x0))]) [0] rfl (Ti_isShelf_x C hr hR))
