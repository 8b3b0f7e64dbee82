def Ti_set_f (n : Nat) (o : Nat) (x1 : Int32) (h : xH) : Option (Int32 × xH) := obd (Ti_isBetween_f n (x1) ((0 : Int32)) ((7 : Int32)) h) (fun r1 => (if r1.1 = 0 then some (((-1) : Int32), r1.2) else obd (gq r1.2 (o) 4 1) (fun w3 => obd w3 (fun a8 => (if kc r1.2 (a8) 1 = true then obd (Zo_reset_f n 0 (a8) (x1) 0 0 r1.2) (fun r9 => obd (gq r9.2 (o) 4 1) (fun w10 => obd w10 (fun a15 => (if kc r9.2 (a15) 1 = true then obd (Zo_close_f n 0 (a15) 0 0 0 r9.2) (fun r16 => (if kc r16.2 (o) 4 = true then obd (Ti_handEmpty_f n (o) r16.2) (fun r17 => some (r17.1, r17.2)) else none)) else none)))) else none)))))
set_option maxRecDepth 100000 in
set_option maxHeartbeats 8000000 in
theorem Ti_set_x {F : xF} {G : xG} {B sz : Nat} {o : Nat} (C : xC F G B cTi_set RTi 2 3 68 0 0) (hr : (xFM F).sig.returnType = (some .int)) {n : Nat} {x1 : Int32} {h : xH} {R : Int32 × xH} (hR : Ti_set_f n o x1 h = some R) : X F G B (xZ F G B (kP (some (.int R.1)) R.2 sz) 0 0) 2 h sz 0 0 0 [(0, .ref (o)), (1, .int (x1))] [] := by
  unfold Ti_set_f at hR
  refine X_iload_n C dTi_set_0 rfl ?_
  refine X_iconst (v := 0) C dTi_set_1 rfl ?_
  refine X_bipush (v := 7) C dTi_set_2 (by decide) ?_
  have hq := o_bind hR
  clear hR
  obtain ⟨r1, hr1, hR⟩ := hq
  refine X_callSk (As := [.int (x1), .int ((0 : Int32)), .int ((7 : Int32))]) (rest := []) C (Ti_isBetween_c hr1) wTi_71 ⟨by decide, by decide⟩ ⟨Nat.le_refl _, Nat.le_refl _⟩ rfl rfl (Nat.le_of_ble_eq_true rfl) dTi_set_4 ?_
  show X F G B _ 2 (r1.2) _ _ _ _ _ [.int (r1.1)]
  refine X_if_ne (tgt := 12) C dTi_set_7 (by decide) (fun c2 => ?_) (fun c2 => ?_)
  · rw [if_neg c2] at hR
    refine X_aload_n C dTi_set_12 rfl ?_
    have hq := o_bind hR
    clear hR
    obtain ⟨w3, hx7, hR⟩ := hq
    obtain ⟨fs4, he5, hv6⟩ := gq_e hx7
    refine X_get (k := 1) C oTi fwTi_21 he5 hv6 dTi_set_13 ?_
    refine X_iload_n C dTi_set_16 rfl ?_
    have hq := o_bind hR
    clear hR
    obtain ⟨a8, rfl, hR⟩ := hq
    have hq := o_if hR
    clear hR
    obtain ⟨k24, hR⟩ := hq
    obtain ⟨fs25, he26⟩ := kc_e k24
    have hq := o_bind hR
    clear hR
    obtain ⟨r9, hr9, hR⟩ := hq
    refine X_callVk (As := [.int (x1)]) (rest := []) C (Zo_reset_c hr9) wTi_203 ⟨by decide, by decide⟩ ⟨Nat.le_refl _, Nat.le_refl _⟩ he26 oZo.2.1 rfl rfl (Nat.le_of_ble_eq_true rfl) dTi_set_17 ?_
    show X F G B _ 2 (r9.2) _ _ _ _ _ []
    refine X_aload_n C dTi_set_20 rfl ?_
    have hq := o_bind hR
    clear hR
    obtain ⟨w10, hx14, hR⟩ := hq
    obtain ⟨fs11, he12, hv13⟩ := gq_e hx14
    refine X_get (k := 1) C oTi fwTi_21 he12 hv13 dTi_set_21 ?_
    have hq := o_bind hR
    clear hR
    obtain ⟨a15, rfl, hR⟩ := hq
    have hq := o_if hR
    clear hR
    obtain ⟨k21, hR⟩ := hq
    obtain ⟨fs22, he23⟩ := kc_e k21
    have hq := o_bind hR
    clear hR
    obtain ⟨r16, hr16, hR⟩ := hq
    refine X_callVk (As := []) (rest := []) C (Zo_close_c hr16) wTi_193 ⟨by decide, by decide⟩ ⟨Nat.le_refl _, Nat.le_refl _⟩ he23 oZo.2.1 rfl rfl (Nat.le_of_ble_eq_true rfl) dTi_set_24 ?_
    show X F G B _ 2 (r16.2) _ _ _ _ _ []
    refine X_aload_n C dTi_set_27 rfl ?_
    have hq := o_if hR
    clear hR
    obtain ⟨k18, hR⟩ := hq
    obtain ⟨fs19, he20⟩ := kc_e k18
    have hq := o_bind hR
    clear hR
    obtain ⟨r17, hr17, hR⟩ := hq
    refine X_callVk (As := []) (rest := []) C (Ti_handEmpty_c hr17) wTi_196 ⟨by decide, by decide⟩ ⟨Nat.le_refl _, Nat.le_refl _⟩ he20 oTi.2.1 rfl rfl (Nat.le_of_ble_eq_true rfl) dTi_set_28 ?_
    show X F G B _ 2 (r17.2) _ _ _ _ _ [.int (r17.1)]
    rw [← Option.some.inj hR]
    exact X_iret C hr (Nat.le_refl _) (Nat.le_refl _) dTi_set_31 ⟨rfl, rfl, rfl⟩
  · rw [if_pos c2] at hR
    refine X_iconst (v := (-1)) C dTi_set_10 rfl ?_
    rw [← Option.some.inj hR]
    exact X_iret C hr (Nat.le_refl _) (Nat.le_refl _) dTi_set_11 ⟨rfl, rfl, rfl⟩
theorem Ti_set_c {l : Launch} {G : xG} {B sz : Nat} {o : Nat} {n : Nat} {x1 : Int32} {h : xH} {R : Int32 × xH} (hR : Ti_set_f n o x1 h = some R) : xCon l yTi_set cTi_set 2 (some .int) 3 68 0 0 G B [.ref (o), .int (x1)] h sz (kP (some (.int R.1)) R.2 sz) := xCon.of (by decide) (by exact Nat.le_of_ble_eq_true rfl) (fun F e C hr hnm => X_sub (lv' := [(0, .ref (o)), (1, .int (x1))]) [0, 1] rfl (Ti_set_x C hr hR))
def Ti_letGo_f (n : Nat) (o : Nat) (x1 : Int32) (x2 : Int32) (x3 : Int32) (h : xH) : Option (Int32 × xH) := obd (Ti_isBetween_f n (x1) ((0 : Int32)) ((200 : Int32)) h) (fun r1 => (if r1.1 = 0 then some (((-1) : Int32), r1.2) else obd (Ti_isBetween_f n (x2) ((0 : Int32)) ((200 : Int32)) r1.2) (fun r3 => (if r3.1 = 0 then some (((-1) : Int32), r3.2) else obd (Ti_isBetween_f n (x3) ((0 : Int32)) ((200 : Int32)) r3.2) (fun r5 => (if r5.1 = 0 then some (((-1) : Int32), r5.2) else obd (gq r5.2 (o) 4 2) (fun w7 => obd w7 (fun a12 => obd (pa r5.2 (a12) 0 ((1 : Int32)) (x1)) (fun h13 => obd (gq h13 (o) 4 2) (fun w20 => obd w20 (fun a25 => obd (pa h13 (a25) 0 ((2 : Int32)) (x2)) (fun h26 => obd (gq h26 (o) 4 2) (fun w33 => obd w33 (fun a38 => obd (pa h26 (a38) 0 ((3 : Int32)) (x3)) (fun h39 => obd (gq h39 (o) 4 1) (fun w46 => obd (gq h39 (o) 4 2) (fun w51 => obd w46 (fun a56 => (if kc h39 (a56) 1 = true then obd (Zo_loosen_f n 0 (a56) (w51) 0 0 0 h39) (fun r57 => obd (gq r57.2 (o) 4 1) (fun w58 => obd w58 (fun a63 => (if kc r57.2 (a63) 1 = true then obd (Zo_close_f n 0 (a63) 0 0 0 r57.2) (fun r64 => (if kc r64.2 (o) 4 = true then obd (Ti_handEmpty_f n (o) r64.2) (fun r65 => some (r65.1, r65.2)) else none)) else none)))) else none)))))))))))))))))))
set_option maxRecDepth 100000 in
set_option maxHeartbeats 8000000 in
theorem Ti_letGo_x {F : xF} {G : xG} {B sz : Nat} {o : Nat} (C : xC F G B cTi_letGo RTi 4 3 70 0 0) (hr : (xFM F).sig.returnType = (some .int)) {n : Nat} {x1 : Int32} {x2 : Int32} {x3 : Int32} {h : xH} {R : Int32 × xH} (hR : Ti_letGo_f n o x1 x2 x3 h = some R) : X F G B (xZ F G B (kP (some (.int R.1)) R.2 sz) 0 0) 4 h sz 0 0 0 [(0, .ref (o)), (1, .int (x1)), (2, .int (x2)), (3, .int (x3))] [] := by
  unfold Ti_letGo_f at hR
  refine X_iload_n C dTi_letGo_0 rfl ?_
  refine X_iconst (v := 0) C dTi_letGo_1 rfl ?_
  refine X_sipush (v := 200) C dTi_letGo_2 (by decide) ?_
  have hq := o_bind hR
  clear hR
  obtain ⟨r1, hr1, hR⟩ := hq
  refine X_callSk (As := [.int (x1), .int ((0 : Int32)), .int ((200 : Int32))]) (rest := []) C (Ti_isBetween_c hr1) wTi_71 ⟨by decide, by decide⟩ ⟨Nat.le_refl _, Nat.le_refl _⟩ rfl rfl (Nat.le_of_ble_eq_true rfl) dTi_letGo_5 ?_
  show X F G B _ 4 (r1.2) _ _ _ _ _ [.int (r1.1)]
  refine X_if_eq (tgt := 33) C dTi_letGo_8 (by decide) (fun c2 => ?_) (fun c2 => ?_)
  · rw [if_pos c2] at hR
    refine X_iconst (v := (-1)) C dTi_letGo_33 rfl ?_
    rw [← Option.some.inj hR]
    exact X_iret C hr (Nat.le_refl _) (Nat.le_refl _) dTi_letGo_34 ⟨rfl, rfl, rfl⟩
  · rw [if_neg c2] at hR
    refine X_iload_n C dTi_letGo_11 rfl ?_
    refine X_iconst (v := 0) C dTi_letGo_12 rfl ?_
    refine X_sipush (v := 200) C dTi_letGo_13 (by decide) ?_
    have hq := o_bind hR
    clear hR
    obtain ⟨r3, hr3, hR⟩ := hq
    refine X_callSk (As := [.int (x2), .int ((0 : Int32)), .int ((200 : Int32))]) (rest := []) C (Ti_isBetween_c hr3) wTi_71 ⟨by decide, by decide⟩ ⟨Nat.le_refl _, Nat.le_refl _⟩ rfl rfl (Nat.le_of_ble_eq_true rfl) dTi_letGo_16 ?_
    show X F G B _ 4 (r3.2) _ _ _ _ _ [.int (r3.1)]
    refine X_if_eq (tgt := 33) C dTi_letGo_19 (by decide) (fun c4 => ?_) (fun c4 => ?_)
    · rw [if_pos c4] at hR
      refine X_iconst (v := (-1)) C dTi_letGo_33 rfl ?_
      rw [← Option.some.inj hR]
      exact X_iret C hr (Nat.le_refl _) (Nat.le_refl _) dTi_letGo_34 ⟨rfl, rfl, rfl⟩
    · rw [if_neg c4] at hR
      refine X_iload_n C dTi_letGo_22 rfl ?_
      refine X_iconst (v := 0) C dTi_letGo_23 rfl ?_
      refine X_sipush (v := 200) C dTi_letGo_24 (by decide) ?_
      have hq := o_bind hR
      clear hR
      obtain ⟨r5, hr5, hR⟩ := hq
      refine X_callSk (As := [.int (x3), .int ((0 : Int32)), .int ((200 : Int32))]) (rest := []) C (Ti_isBetween_c hr5) wTi_71 ⟨by decide, by decide⟩ ⟨Nat.le_refl _, Nat.le_refl _⟩ rfl rfl (Nat.le_of_ble_eq_true rfl) dTi_letGo_27 ?_
      show X F G B _ 4 (r5.2) _ _ _ _ _ [.int (r5.1)]
      refine X_if_ne (tgt := 35) C dTi_letGo_30 (by decide) (fun c6 => ?_) (fun c6 => ?_)
      · rw [if_neg c6] at hR
        refine X_aload_n C dTi_letGo_35 rfl ?_
        have hq := o_bind hR
        clear hR
        obtain ⟨w7, hx11, hR⟩ := hq
        obtain ⟨fs8, he9, hv10⟩ := gq_e hx11
        refine X_get (k := 2) C oTi fwTi_28 he9 hv10 dTi_letGo_36 ?_
        refine X_iconst (v := 1) C dTi_letGo_39 rfl ?_
        refine X_iload_n C dTi_letGo_40 rfl ?_
        have hq := o_bind hR
        clear hR
        obtain ⟨a12, rfl, hR⟩ := hq
        have hq := o_bind hR
        clear hR
        obtain ⟨h13, hh14, hR⟩ := hq
        obtain ⟨n15, f16, he17, hi18, e19⟩ := pa_e hh14
        refine X_iast C rfl he17 hi18 dTi_letGo_41 ?_
        rw [← e19]
        refine X_aload_n C dTi_letGo_42 rfl ?_
        have hq := o_bind hR
        clear hR
        obtain ⟨w20, hx24, hR⟩ := hq
        obtain ⟨fs21, he22, hv23⟩ := gq_e hx24
        refine X_get (k := 2) C oTi fwTi_28 he22 hv23 dTi_letGo_43 ?_
        refine X_iconst (v := 2) C dTi_letGo_46 rfl ?_
        refine X_iload_n C dTi_letGo_47 rfl ?_
        have hq := o_bind hR
        clear hR
        obtain ⟨a25, rfl, hR⟩ := hq
        have hq := o_bind hR
        clear hR
        obtain ⟨h26, hh27, hR⟩ := hq
        obtain ⟨n28, f29, he30, hi31, e32⟩ := pa_e hh27
        refine X_iast C rfl he30 hi31 dTi_letGo_48 ?_
        rw [← e32]
        refine X_aload_n C dTi_letGo_49 rfl ?_
        have hq := o_bind hR
        clear hR
        obtain ⟨w33, hx37, hR⟩ := hq
        obtain ⟨fs34, he35, hv36⟩ := gq_e hx37
        refine X_get (k := 2) C oTi fwTi_28 he35 hv36 dTi_letGo_50 ?_
        refine X_iconst (v := 3) C dTi_letGo_53 rfl ?_
        refine X_iload_n C dTi_letGo_54 rfl ?_
        have hq := o_bind hR
        clear hR
        obtain ⟨a38, rfl, hR⟩ := hq
        have hq := o_bind hR
        clear hR
        obtain ⟨h39, hh40, hR⟩ := hq
        obtain ⟨n41, f42, he43, hi44, e45⟩ := pa_e hh40
        refine X_iast C rfl he43 hi44 dTi_letGo_55 ?_
        rw [← e45]
        refine X_aload_n C dTi_letGo_56 rfl ?_
        have hq := o_bind hR
        clear hR
        obtain ⟨w46, hx50, hR⟩ := hq
        obtain ⟨fs47, he48, hv49⟩ := gq_e hx50
        refine X_get (k := 1) C oTi fwTi_21 he48 hv49 dTi_letGo_57 ?_
        refine X_aload_n C dTi_letGo_60 rfl ?_
        have hq := o_bind hR
        clear hR
        obtain ⟨w51, hx55, hR⟩ := hq
        obtain ⟨fs52, he53, hv54⟩ := gq_e hx55
        refine X_get (k := 2) C oTi fwTi_28 he53 hv54 dTi_letGo_61 ?_
        have hq := o_bind hR
        clear hR
        obtain ⟨a56, rfl, hR⟩ := hq
        have hq := o_if hR
        clear hR
        obtain ⟨k72, hR⟩ := hq
        obtain ⟨fs73, he74⟩ := kc_e k72
        have hq := o_bind hR
        clear hR
        obtain ⟨r57, hr57, hR⟩ := hq
        refine X_callVk (As := [va_rf (w51)]) (rest := []) C (Zo_loosen_c hr57) wTi_207 ⟨by decide, by decide⟩ ⟨Nat.le_refl _, Nat.le_refl _⟩ he74 oZo.2.1 rfl rfl (Nat.le_of_ble_eq_true rfl) dTi_letGo_64 ?_
        show X F G B _ 4 (r57.2) _ _ _ _ _ [.int (r57.1)]
        refine X_pop C dTi_letGo_67 rfl ?_
        refine X_aload_n C dTi_letGo_68 rfl ?_
        have hq := o_bind hR
        clear hR
        obtain ⟨w58, hx62, hR⟩ := hq
        obtain ⟨fs59, he60, hv61⟩ := gq_e hx62
        refine X_get (k := 1) C oTi fwTi_21 he60 hv61 dTi_letGo_69 ?_
        have hq := o_bind hR
        clear hR
        obtain ⟨a63, rfl, hR⟩ := hq
        have hq := o_if hR
        clear hR
        obtain ⟨k69, hR⟩ := hq
        obtain ⟨fs70, he71⟩ := kc_e k69
        have hq := o_bind hR
        clear hR
        obtain ⟨r64, hr64, hR⟩ := hq
        refine X_callVk (As := []) (rest := []) C (Zo_close_c hr64) wTi_193 ⟨by decide, by decide⟩ ⟨Nat.le_refl _, Nat.le_refl _⟩ he71 oZo.2.1 rfl rfl (Nat.le_of_ble_eq_true rfl) dTi_letGo_72 ?_
        show X F G B _ 4 (r64.2) _ _ _ _ _ []
        refine X_aload_n C dTi_letGo_75 rfl ?_
        have hq := o_if hR
        clear hR
        obtain ⟨k66, hR⟩ := hq
        obtain ⟨fs67, he68⟩ := kc_e k66
        have hq := o_bind hR
        clear hR
        obtain ⟨r65, hr65, hR⟩ := hq
        refine X_callVk (As := []) (rest := []) C (Ti_handEmpty_c hr65) wTi_196 ⟨by decide, by decide⟩ ⟨Nat.le_refl _, Nat.le_refl _⟩ he68 oTi.2.1 rfl rfl (Nat.le_of_ble_eq_true rfl) dTi_letGo_76 ?_
        show X F G B _ 4 (r65.2) _ _ _ _ _ [.int (r65.1)]
        rw [← Option.some.inj hR]
        exact X_iret C hr (Nat.le_refl _) (Nat.le_refl _) dTi_letGo_79 ⟨rfl, rfl, rfl⟩
      · rw [if_pos c6] at hR
        refine X_iconst (v := (-1)) C dTi_letGo_33 rfl ?_
        rw [← Option.some.inj hR]
        exact X_iret C hr (Nat.le_refl _) (Nat.le_refl _) dTi_letGo_34 ⟨rfl, rfl, rfl⟩
theorem Ti_letGo_c {l : Launch} {G : xG} {B sz : Nat} {o : Nat} {n : Nat} {x1 : Int32} {x2 : Int32} {x3 : Int32} {h : xH} {R : Int32 × xH} (hR : Ti_letGo_f n o x1 x2 x3 h = some R) : xCon l yTi_letGo cTi_letGo 4 (some .int) 3 70 0 0 G B [.ref (o), .int (x1), .int (x2), .int (x3)] h sz (kP (some (.int R.1)) R.2 sz) := xCon.of (by decide) (by exact Nat.le_of_ble_eq_true rfl) (fun F e C hr hnm => X_sub (lv' := [(0, .ref (o)), (1, .int (x1)), (2, .int (x2)), (3, .int (x3))]) [0, 1, 2, 3] rfl (Ti_letGo_x C hr hR))
def Ti_meet_f (n : Nat) (o : Nat) (x1 : Int32) (h : xH) : Option (Int32 × xH) := obd (gq h (o) 4 0) (fun w1 => obd w1 (fun a6 => (if kc h (a6) 3 = true then obd (Ya_stateAt_f n (a6) (x1) h) (fun r7 => bnd (r7.1) (fun w8 => oel (w8) (some (((-1) : Int32), r7.2)) (fun a10 => obd (gq r7.2 (o) 4 1) (fun w12 => obd (gq r7.2 (a10) 2 3) (fun w17 => obd w12 (fun a22 => (if kc r7.2 (a22) 1 = true then obd (Zo_cutBy_f n 0 (a22) (w17) 0 0 r7.2) (fun r23 => obd (gq r23.2 (o) 4 1) (fun w24 => obd w24 (fun a29 => (if kc r23.2 (a29) 1 = true then obd (Zo_close_f n 0 (a29) 0 0 0 r23.2) (fun r30 => (if kc r30.2 (o) 4 = true then obd (Ti_handEmpty_f n (o) r30.2) (fun r31 => some (r31.1, r31.2)) else none)) else none)))) else none))))))) else none)))
set_option maxRecDepth 100000 in
set_option maxHeartbeats 8000000 in
theorem Ti_meet_x {F : xF} {G : xG} {B sz : Nat} {o : Nat} (C : xC F G B cTi_meet RTi 3 3 68 0 0) (hr : (xFM F).sig.returnType = (some .int)) {n : Nat} {x1 : Int32} {h : xH} {R : Int32 × xH} (hR : Ti_meet_f n o x1 h = some R) : X F G B (xZ F G B (kP (some (.int R.1)) R.2 sz) 0 0) 3 h sz 0 0 0 [(0, .ref (o)), (1, .int (x1))] [] := by
  unfold Ti_meet_f at hR
  refine X_aload_n C dTi_meet_0 rfl ?_
  have hq := o_bind hR
  clear hR
  obtain ⟨w1, hx5, hR⟩ := hq
  obtain ⟨fs2, he3, hv4⟩ := gq_e hx5
  refine X_get (k := 0) C oTi fwTi_10 he3 hv4 dTi_meet_1 ?_
  refine X_iload_n C dTi_meet_4 rfl ?_
  have hq := o_bind hR
  clear hR
  obtain ⟨a6, rfl, hR⟩ := hq
  have hq := o_if hR
  clear hR
  obtain ⟨k41, hR⟩ := hq
  obtain ⟨fs42, he43⟩ := kc_e k41
  have hq := o_bind hR
  clear hR
  obtain ⟨r7, hr7, hR⟩ := hq
  refine X_callVk (As := [.int (x1)]) (rest := []) C (Ya_stateAt_c hr7) wTi_121 ⟨by decide, by decide⟩ ⟨Nat.le_refl _, Nat.le_refl _⟩ he43 oYa.2.1 rfl rfl (Nat.le_of_ble_eq_true rfl) dTi_meet_5 ?_
  show X F G B _ 3 (r7.2) _ _ _ _ _ [va_rf (r7.1)]
  have hq := b_bnd hR
  clear hR
  obtain ⟨w8, e9, hR⟩ := hq
  rw [← e9]
  refine X_astore_nq (lv' := [(2, va_rf (w8)), (0, .ref (o)), (1, .int (x1))]) C dTi_meet_8 (by decide) rfl ?_
  refine X_aload_nq C dTi_meet_9 rfl ?_
  refine X_ifnonnullq (tgt := 15) C dTi_meet_10 (by decide) (fun a10 e11 => ?_) (fun e11 => ?_)
  · subst e11
    rw [oel_s] at hR
    refine X_aload_n C dTi_meet_15 rfl ?_
    have hq := o_bind hR
    clear hR
    obtain ⟨w12, hx16, hR⟩ := hq
    obtain ⟨fs13, he14, hv15⟩ := gq_e hx16
    refine X_get (k := 1) C oTi fwTi_21 he14 hv15 dTi_meet_16 ?_
    refine X_aload_n C dTi_meet_19 rfl ?_
    have hq := o_bind hR
    clear hR
    obtain ⟨w17, hx21, hR⟩ := hq
    obtain ⟨fs18, he19, hv20⟩ := gq_e hx21
    refine X_get (k := 3) C oSt fwTi_158 he19 hv20 dTi_meet_20 ?_
    have hq := o_bind hR
    clear hR
    obtain ⟨a22, rfl, hR⟩ := hq
    have hq := o_if hR
    clear hR
    obtain ⟨k38, hR⟩ := hq
    obtain ⟨fs39, he40⟩ := kc_e k38
    have hq := o_bind hR
    clear hR
    obtain ⟨r23, hr23, hR⟩ := hq
    refine X_callVk (As := [va_rf (w17)]) (rest := []) C (Zo_cutBy_c hr23) wTi_211 ⟨by decide, by decide⟩ ⟨Nat.le_refl _, Nat.le_refl _⟩ he40 oZo.2.1 rfl rfl (Nat.le_of_ble_eq_true rfl) dTi_meet_23 ?_
    show X F G B _ 3 (r23.2) _ _ _ _ _ []
    refine X_aload_n C dTi_meet_26 rfl ?_
    have hq := o_bind hR
    clear hR
    obtain ⟨w24, hx28, hR⟩ := hq
    obtain ⟨fs25, he26, hv27⟩ := gq_e hx28
    refine X_get (k := 1) C oTi fwTi_21 he26 hv27 dTi_meet_27 ?_
    have hq := o_bind hR
    clear hR
    obtain ⟨a29, rfl, hR⟩ := hq
    have hq := o_if hR
    clear hR
    obtain ⟨k35, hR⟩ := hq
    obtain ⟨fs36, he37⟩ := kc_e k35
    have hq := o_bind hR
    clear hR
    obtain ⟨r30, hr30, hR⟩ := hq
    refine X_callVk (As := []) (rest := []) C (Zo_close_c hr30) wTi_193 ⟨by decide, by decide⟩ ⟨Nat.le_refl _, Nat.le_refl _⟩ he37 oZo.2.1 rfl rfl (Nat.le_of_ble_eq_true rfl) dTi_meet_30 ?_
    show X F G B _ 3 (r30.2) _ _ _ _ _ []
    refine X_aload_n C dTi_meet_33 rfl ?_
    have hq := o_if hR
    clear hR
    obtain ⟨k32, hR⟩ := hq
    obtain ⟨fs33, he34⟩ := kc_e k32
    have hq := o_bind hR
    clear hR
    obtain ⟨r31, hr31, hR⟩ := hq
    refine X_callVk (As := []) (rest := []) C (Ti_handEmpty_c hr31) wTi_196 ⟨by decide, by decide⟩ ⟨Nat.le_refl _, Nat.le_refl _⟩ he34 oTi.2.1 rfl rfl (Nat.le_of_ble_eq_true rfl) dTi_meet_34 ?_
    show X F G B _ 3 (r31.2) _ _ _ _ _ [.int (r31.1)]
    rw [← Option.some.inj hR]
    exact X_iret C hr (Nat.le_refl _) (Nat.le_refl _) dTi_meet_37 ⟨rfl, rfl, rfl⟩
  · subst e11
    rw [oel_n] at hR
    refine X_iconst (v := (-1)) C dTi_meet_13 rfl ?_
    rw [← Option.some.inj hR]
    exact X_iret C hr (Nat.le_refl _) (Nat.le_refl _) dTi_meet_14 ⟨rfl, rfl, rfl⟩
theorem Ti_meet_c {l : Launch} {G : xG} {B sz : Nat} {o : Nat} {n : Nat} {x1 : Int32} {h : xH} {R : Int32 × xH} (hR : Ti_meet_f n o x1 h = some R) : xCon l yTi_meet cTi_meet 3 (some .int) 3 68 0 0 G B [.ref (o), .int (x1)] h sz (kP (some (.int R.1)) R.2 sz) := xCon.of (by decide) (by exact Nat.le_of_ble_eq_true rfl) (fun F e C hr hnm => X_sub (lv' := [(0, .ref (o)), (1, .int (x1))]) [0, 1] rfl (Ti_meet_x C hr hR))
def Ti_within_f (n : Nat) (o : Nat) (x1 : Int32) (h : xH) : Option (Int32 × xH) := obd (gq h (o) 4 0) (fun w1 => obd w1 (fun a6 => (if kc h (a6) 3 = true then obd (Ya_stateAt_f n (a6) (x1) h) (fun r7 => bnd (r7.1) (fun w8 => oel (w8) (some (((-1) : Int32), r7.2)) (fun a10 => obd (gq r7.2 (o) 4 1) (fun w12 => obd (gq r7.2 (a10) 2 3) (fun w17 => obd w12 (fun a22 => (if kc r7.2 (a22) 1 = true then obd (Zo_liesIn_f n 0 (a22) (w17) 0 r7.2) (fun r23 => (if r23.1 = 0 then obd (gq r23.2 (a10) 2 3) (fun w25 => obd (gq r23.2 (o) 4 1) (fun w30 => obd w25 (fun a35 => (if kc r23.2 (a35) 1 = true then obd (Zo_liesIn_f n 0 (a35) (w30) 0 r23.2) (fun r36 => (if r36.1 = 0 then some (((0 : Int32)) + ((0 : Int32)), r36.2) else some (((0 : Int32)) + ((2 : Int32)), r36.2))) else none)))) else obd (gq r23.2 (a10) 2 3) (fun w41 => obd (gq r23.2 (o) 4 1) (fun w46 => obd w41 (fun a51 => (if kc r23.2 (a51) 1 = true then obd (Zo_liesIn_f n 0 (a51) (w46) 0 r23.2) (fun r52 => (if r52.1 = 0 then some (((1 : Int32)) + ((0 : Int32)), r52.2) else some (((1 : Int32)) + ((2 : Int32)), r52.2))) else none)))))) else none))))))) else none)))
set_option maxRecDepth 100000 in
set_option maxHeartbeats 8000000 in
theorem Ti_within_x {F : xF} {G : xG} {B sz : Nat} {o : Nat} (C : xC F G B cTi_within RTi 3 1 22 0 0) (hr : (xFM F).sig.returnType = (some .int)) {n : Nat} {x1 : Int32} {h : xH} {R : Int32 × xH} (hR : Ti_within_f n o x1 h = some R) : X F G B (xZ F G B (kP (some (.int R.1)) R.2 sz) 0 0) 3 h sz 0 0 0 [(0, .ref (o)), (1, .int (x1))] [] := by
  unfold Ti_within_f at hR
  refine X_aload_n C dTi_within_0 rfl ?_
  have hq := o_bind hR
  clear hR
  obtain ⟨w1, hx5, hR⟩ := hq
  obtain ⟨fs2, he3, hv4⟩ := gq_e hx5
  refine X_get (k := 0) C oTi fwTi_10 he3 hv4 dTi_within_1 ?_
  refine X_iload_n C dTi_within_4 rfl ?_
  have hq := o_bind hR
  clear hR
  obtain ⟨a6, rfl, hR⟩ := hq
  have hq := o_if hR
  clear hR
  obtain ⟨k60, hR⟩ := hq
  obtain ⟨fs61, he62⟩ := kc_e k60
  have hq := o_bind hR
  clear hR
  obtain ⟨r7, hr7, hR⟩ := hq
  refine X_callVk (As := [.int (x1)]) (rest := []) C (Ya_stateAt_c hr7) wTi_121 ⟨by decide, by decide⟩ ⟨Nat.le_refl _, Nat.le_refl _⟩ he62 oYa.2.1 rfl rfl (Nat.le_of_ble_eq_true rfl) dTi_within_5 ?_
  show X F G B _ 3 (r7.2) _ _ _ _ _ [va_rf (r7.1)]
  have hq := b_bnd hR
  clear hR
  obtain ⟨w8, e9, hR⟩ := hq
  rw [← e9]
  refine X_astore_nq (lv' := [(2, va_rf (w8)), (0, .ref (o)), (1, .int (x1))]) C dTi_within_8 (by decide) rfl ?_
  refine X_aload_nq C dTi_within_9 rfl ?_
  refine X_ifnonnullq (tgt := 15) C dTi_within_10 (by decide) (fun a10 e11 => ?_) (fun e11 => ?_)
  · subst e11
    rw [oel_s] at hR
    refine X_aload_n C dTi_within_15 rfl ?_
    have hq := o_bind hR
    clear hR
    obtain ⟨w12, hx16, hR⟩ := hq
    obtain ⟨fs13, he14, hv15⟩ := gq_e hx16
    refine X_get (k := 1) C oTi fwTi_21 he14 hv15 dTi_within_16 ?_
    refine X_aload_n C dTi_within_19 rfl ?_
    have hq := o_bind hR
    clear hR
    obtain ⟨w17, hx21, hR⟩ := hq
    obtain ⟨fs18, he19, hv20⟩ := gq_e hx21
    refine X_get (k := 3) C oSt fwTi_158 he19 hv20 dTi_within_20 ?_
    have hq := o_bind hR
    clear hR
    obtain ⟨a22, rfl, hR⟩ := hq
    have hq := o_if hR
    clear hR
    obtain ⟨k57, hR⟩ := hq
    obtain ⟨fs58, he59⟩ := kc_e k57
    have hq := o_bind hR
    clear hR
    obtain ⟨r23, hr23, hR⟩ := hq
    refine X_callVk (As := [va_rf (w17)]) (rest := []) C (Zo_liesIn_c hr23) wTi_214 ⟨by decide, by decide⟩ ⟨Nat.le_refl _, Nat.le_refl _⟩ he59 oZo.2.1 rfl rfl (Nat.le_of_ble_eq_true rfl) dTi_within_23 ?_
    show X F G B _ 3 (r23.2) _ _ _ _ _ [.int (r23.1)]
    refine X_if_eq (tgt := 33) C dTi_within_26 (by decide) (fun c24 => ?_) (fun c24 => ?_)
    · rw [if_pos c24] at hR
      refine X_iconst (v := 0) C dTi_within_33 rfl ?_
      refine X_aload_n C dTi_within_34 rfl ?_
      have hq := o_bind hR
      clear hR
      obtain ⟨w25, hx29, hR⟩ := hq
      obtain ⟨fs26, he27, hv28⟩ := gq_e hx29
      refine X_get (k := 3) C oSt fwTi_158 he27 hv28 dTi_within_35 ?_
      refine X_aload_n C dTi_within_38 rfl ?_
      have hq := o_bind hR
      clear hR
      obtain ⟨w30, hx34, hR⟩ := hq
      obtain ⟨fs31, he32, hv33⟩ := gq_e hx34
      refine X_get (k := 1) C oTi fwTi_21 he32 hv33 dTi_within_39 ?_
      have hq := o_bind hR
      clear hR
      obtain ⟨a35, rfl, hR⟩ := hq
      have hq := o_if hR
      clear hR
      obtain ⟨k38, hR⟩ := hq
      obtain ⟨fs39, he40⟩ := kc_e k38
      have hq := o_bind hR
      clear hR
      obtain ⟨r36, hr36, hR⟩ := hq
      refine X_callVk (As := [va_rf (w30)]) (rest := [.int ((0 : Int32))]) C (Zo_liesIn_c hr36) wTi_214 ⟨by decide, by decide⟩ ⟨Nat.le_refl _, Nat.le_refl _⟩ he40 oZo.2.1 rfl rfl (Nat.le_of_ble_eq_true rfl) dTi_within_42 ?_
      show X F G B _ 3 (r36.2) _ _ _ _ _ [.int (r36.1), .int ((0 : Int32))]
      refine X_if_eq (tgt := 52) C dTi_within_45 (by decide) (fun c37 => ?_) (fun c37 => ?_)
      · rw [if_pos c37] at hR
        refine X_iconst (v := 0) C dTi_within_52 rfl ?_
        refine X_iadd C dTi_within_53 ?_
        rw [← Option.some.inj hR]
        exact X_iret C hr (Nat.le_refl _) (Nat.le_refl _) dTi_within_54 ⟨rfl, rfl, rfl⟩
      · rw [if_neg c37] at hR
        refine X_iconst (v := 2) C dTi_within_48 rfl ?_
        refine X_goto (tgt := 53) C dTi_within_49 (by decide) ?_
        refine X_iadd C dTi_within_53 ?_
        rw [← Option.some.inj hR]
        exact X_iret C hr (Nat.le_refl _) (Nat.le_refl _) dTi_within_54 ⟨rfl, rfl, rfl⟩
    · rw [if_neg c24] at hR
      refine X_iconst (v := 1) C dTi_within_29 rfl ?_
      refine X_goto (tgt := 34) C dTi_within_30 (by decide) ?_
      refine X_aload_n C dTi_within_34 rfl ?_
      have hq := o_bind hR
      clear hR
      obtain ⟨w41, hx45, hR⟩ := hq
      obtain ⟨fs42, he43, hv44⟩ := gq_e hx45
      refine X_get (k := 3) C oSt fwTi_158 he43 hv44 dTi_within_35 ?_
      refine X_aload_n C dTi_within_38 rfl ?_
      have hq := o_bind hR
      clear hR
      obtain ⟨w46, hx50, hR⟩ := hq
      obtain ⟨fs47, he48, hv49⟩ := gq_e hx50
      refine X_get (k := 1) C oTi fwTi_21 he48 hv49 dTi_within_39 ?_
      have hq := o_bind hR
      clear hR
      obtain ⟨a51, rfl, hR⟩ := hq
      have hq := o_if hR
      clear hR
      obtain ⟨k54, hR⟩ := hq
      obtain ⟨fs55, he56⟩ := kc_e k54
      have hq := o_bind hR
      clear hR
      obtain ⟨r52, hr52, hR⟩ := hq
      refine X_callVk (As := [va_rf (w46)]) (rest := [.int ((1 : Int32))]) C (Zo_liesIn_c hr52) wTi_214 ⟨by decide, by decide⟩ ⟨Nat.le_refl _, Nat.le_refl _⟩ he56 oZo.2.1 rfl rfl (Nat.le_of_ble_eq_true rfl) dTi_within_42 ?_
      show X F G B _ 3 (r52.2) _ _ _ _ _ [.int (r52.1), .int ((1 : Int32))]
      refine X_if_eq (tgt := 52) C dTi_within_45 (by decide) (fun c53 => ?_) (fun c53 => ?_)
      · rw [if_pos c53] at hR
        refine X_iconst (v := 0) C dTi_within_52 rfl ?_
        refine X_iadd C dTi_within_53 ?_
        rw [← Option.some.inj hR]
        exact X_iret C hr (Nat.le_refl _) (Nat.le_refl _) dTi_within_54 ⟨rfl, rfl, rfl⟩
      · rw [if_neg c53] at hR
        refine X_iconst (v := 2) C dTi_within_48 rfl ?_
        refine X_goto (tgt := 53) C dTi_within_49 (by decide) ?_
        refine X_iadd C dTi_within_53 ?_
        rw [← Option.some.inj hR]
        exact X_iret C hr (Nat.le_refl _) (Nat.le_refl _) dTi_within_54 ⟨rfl, rfl, rfl⟩
  · subst e11
    rw [oel_n] at hR
    refine X_iconst (v := (-1)) C dTi_within_13 rfl ?_
    rw [← Option.some.inj hR]
    exact X_iret C hr (Nat.le_refl _) (Nat.le_refl _) dTi_within_14 ⟨rfl, rfl, rfl⟩
theorem Ti_within_c {l : Launch} {G : xG} {B sz : Nat} {o : Nat} {n : Nat} {x1 : Int32} {h : xH} {R : Int32 × xH} (hR : Ti_within_f n o x1 h = some R) : xCon l yTi_within cTi_within 3 (some .int) 1 22 0 0 G B [.ref (o), .int (x1)] h sz (kP (some (.int R.1)) R.2 sz) := xCon.of (by decide) (by exact Nat.le_of_ble_eq_true rfl) (fun F e C hr hnm => X_sub (lv' := [(0, .ref (o)), (1, .int (x1))]) [0, 1] rfl (Ti_within_x C hr hR))
def Ti_count_f (n : Nat) (o : Nat) (x1 : Int32) (h : xH) : Option (Int32 × xH) := (if x1 = 0 then obd (gq h (o) 4 0) (fun w2 => obd w2 (fun a7 => obd (gi h (a7) 3 1) (fun u8 => some (u8, h)))) else (if x1 = 1 then obd (gq h (o) 4 0) (fun w14 => obd w14 (fun a19 => obd (gi h (a19) 3 3) (fun u20 => some (u20, h)))) else (if x1 = 2 then obd (gq h (o) 4 0) (fun w26 => obd w26 (fun a31 => obd (gi h (a31) 3 4) (fun u32 => some (u32, h)))) else (if x1 = 3 then obd (gq h (o) 4 0) (fun w38 => obd w38 (fun a43 => obd (gi h (a43) 3 5) (fun u44 => some (u44, h)))) else (if x1 = 4 then obd (gq h (o) 4 0) (fun w50 => obd w50 (fun a55 => obd (gi h (a55) 3 6) (fun u56 => some (u56, h)))) else (if x1 = 5 then obd (gq h (o) 4 0) (fun w62 => obd w62 (fun a67 => obd (gi h (a67) 3 8) (fun u68 => (if u68 = 0 then some (((-2) : Int32), h) else obd (gq h (o) 4 0) (fun w74 => obd w74 (fun a79 => obd (gq h (a79) 3 9) (fun w80 => obd w80 (fun a85 => obd (ai h (a85) 0 ((x1) - ((4 : Int32)))) (fun u86 => some (u86, h)))))))))) else (if x1 = 6 then obd (gq h (o) 4 0) (fun w94 => obd w94 (fun a99 => obd (gi h (a99) 3 8) (fun u100 => (if u100 = 0 then some (((-2) : Int32), h) else obd (gq h (o) 4 0) (fun w106 => obd w106 (fun a111 => obd (gq h (a111) 3 9) (fun w112 => obd w112 (fun a117 => obd (ai h (a117) 0 ((x1) - ((4 : Int32)))) (fun u118 => some (u118, h)))))))))) else (if x1 = 7 then obd (gq h (o) 4 0) (fun w126 => obd w126 (fun a131 => obd (gi h (a131) 3 8) (fun u132 => (if u132 = 0 then some (((-2) : Int32), h) else obd (gq h (o) 4 0) (fun w138 => obd w138 (fun a143 => obd (gq h (a143) 3 9) (fun w144 => obd w144 (fun a149 => obd (ai h (a149) 0 ((x1) - ((4 : Int32)))) (fun u150 => some (u150, h)))))))))) else some (((-1) : Int32), h)))))))))
set_option maxRecDepth 100000 in
set_option maxHeartbeats 8000000 in
theorem Ti_count_x {F : xF} {G : xG} {B sz : Nat} {o : Nat} (C : xC F G B cTi_count RTi 2 0 0 0 0) (hr : (xFM F).sig.returnType = (some .int)) {n : Nat} {x1 : Int32} {h : xH} {R : Int32 × xH} (hR : Ti_count_f n o x1 h = some R) : X F G B (xZ F G B (kP (some (.int R.1)) R.2 sz) 0 0) 2 h sz 0 0 0 [(0, .ref (o)), (1, .int (x1))] [] := by
  unfold Ti_count_f at hR
  refine X_iload_n C dTi_count_0 rfl ?_
  by_cases c1 : x1 = 0
  · rw [if_pos c1] at hR
    refine X_tableIn (off := 47) (tgt := 48) C dTi_count_1 (by rw [c1]; decide) (by rw [c1]; decide) (by rw [c1]; rfl) (by decide) ?_
    refine X_aload_n C dTi_count_48 rfl ?_
    have hq := o_bind hR
    clear hR
    obtain ⟨w2, hx6, hR⟩ := hq
    obtain ⟨fs3, he4, hv5⟩ := gq_e hx6
    refine X_get (k := 0) C oTi fwTi_10 he4 hv5 dTi_count_49 ?_
    have hq := o_bind hR
    clear hR
    obtain ⟨a7, rfl, hR⟩ := hq
    have hq := o_bind hR
    clear hR
    obtain ⟨u8, hx12, hR⟩ := hq
    obtain ⟨fs9, he10, hv11⟩ := gi_e hx12
    refine X_get (k := 1) C oYa fwTi_38 he10 hv11 dTi_count_52 ?_
    rw [← Option.some.inj hR]
    exact X_iret C hr (Nat.le_refl _) (Nat.le_refl _) dTi_count_55 ⟨rfl, rfl, rfl⟩
  · rw [if_neg c1] at hR
    by_cases c13 : x1 = 1
    · rw [if_pos c13] at hR
      refine X_tableIn (off := 55) (tgt := 56) C dTi_count_1 (by rw [c13]; decide) (by rw [c13]; decide) (by rw [c13]; rfl) (by decide) ?_
      refine X_aload_n C dTi_count_56 rfl ?_
      have hq := o_bind hR
      clear hR
      obtain ⟨w14, hx18, hR⟩ := hq
      obtain ⟨fs15, he16, hv17⟩ := gq_e hx18
      refine X_get (k := 0) C oTi fwTi_10 he16 hv17 dTi_count_57 ?_
      have hq := o_bind hR
      clear hR
      obtain ⟨a19, rfl, hR⟩ := hq
      have hq := o_bind hR
      clear hR
      obtain ⟨u20, hx24, hR⟩ := hq
      obtain ⟨fs21, he22, hv23⟩ := gi_e hx24
      refine X_get (k := 3) C oYa fwTi_129 he22 hv23 dTi_count_60 ?_
      rw [← Option.some.inj hR]
      exact X_iret C hr (Nat.le_refl _) (Nat.le_refl _) dTi_count_63 ⟨rfl, rfl, rfl⟩
    · rw [if_neg c13] at hR
      by_cases c25 : x1 = 2
      · rw [if_pos c25] at hR
        refine X_tableIn (off := 63) (tgt := 64) C dTi_count_1 (by rw [c25]; decide) (by rw [c25]; decide) (by rw [c25]; rfl) (by decide) ?_
        refine X_aload_n C dTi_count_64 rfl ?_
        have hq := o_bind hR
        clear hR
        obtain ⟨w26, hx30, hR⟩ := hq
        obtain ⟨fs27, he28, hv29⟩ := gq_e hx30
        refine X_get (k := 0) C oTi fwTi_10 he28 hv29 dTi_count_65 ?_
        have hq := o_bind hR
        clear hR
        obtain ⟨a31, rfl, hR⟩ := hq
        have hq := o_bind hR
        clear hR
        obtain ⟨u32, hx36, hR⟩ := hq
        obtain ⟨fs33, he34, hv35⟩ := gi_e hx36
        refine X_get (k := 4) C oYa fwTi_142 he34 hv35 dTi_count_68 ?_
        rw [← Option.some.inj hR]
        exact X_iret C hr (Nat.le_refl _) (Nat.le_refl _) dTi_count_71 ⟨rfl, rfl, rfl⟩
      · rw [if_neg c25] at hR
        by_cases c37 : x1 = 3
        · rw [if_pos c37] at hR
          refine X_tableIn (off := 71) (tgt := 72) C dTi_count_1 (by rw [c37]; decide) (by rw [c37]; decide) (by rw [c37]; rfl) (by decide) ?_
          refine X_aload_n C dTi_count_72 rfl ?_
          have hq := o_bind hR
          clear hR
          obtain ⟨w38, hx42, hR⟩ := hq
          obtain ⟨fs39, he40, hv41⟩ := gq_e hx42
          refine X_get (k := 0) C oTi fwTi_10 he40 hv41 dTi_count_73 ?_
          have hq := o_bind hR
          clear hR
          obtain ⟨a43, rfl, hR⟩ := hq
          have hq := o_bind hR
          clear hR
          obtain ⟨u44, hx48, hR⟩ := hq
          obtain ⟨fs45, he46, hv47⟩ := gi_e hx48
          refine X_get (k := 5) C oYa fwTi_221 he46 hv47 dTi_count_76 ?_
          rw [← Option.some.inj hR]
          exact X_iret C hr (Nat.le_refl _) (Nat.le_refl _) dTi_count_79 ⟨rfl, rfl, rfl⟩
        · rw [if_neg c37] at hR
          by_cases c49 : x1 = 4
          · rw [if_pos c49] at hR
            refine X_tableIn (off := 79) (tgt := 80) C dTi_count_1 (by rw [c49]; decide) (by rw [c49]; decide) (by rw [c49]; rfl) (by decide) ?_
            refine X_aload_n C dTi_count_80 rfl ?_
            have hq := o_bind hR
            clear hR
            obtain ⟨w50, hx54, hR⟩ := hq
            obtain ⟨fs51, he52, hv53⟩ := gq_e hx54
            refine X_get (k := 0) C oTi fwTi_10 he52 hv53 dTi_count_81 ?_
            have hq := o_bind hR
            clear hR
            obtain ⟨a55, rfl, hR⟩ := hq
            have hq := o_bind hR
            clear hR
            obtain ⟨u56, hx60, hR⟩ := hq
            obtain ⟨fs57, he58, hv59⟩ := gi_e hx60
            refine X_get (k := 6) C oYa fwTi_222 he58 hv59 dTi_count_84 ?_
            rw [← Option.some.inj hR]
            exact X_iret C hr (Nat.le_refl _) (Nat.le_refl _) dTi_count_87 ⟨rfl, rfl, rfl⟩
          · rw [if_neg c49] at hR
            by_cases c61 : x1 = 5
            · rw [if_pos c61] at hR
              refine X_tableIn (off := 87) (tgt := 88) C dTi_count_1 (by rw [c61]; decide) (by rw [c61]; decide) (by rw [c61]; rfl) (by decide) ?_
              refine X_aload_n C dTi_count_88 rfl ?_
              have hq := o_bind hR
              clear hR
              obtain ⟨w62, hx66, hR⟩ := hq
              obtain ⟨fs63, he64, hv65⟩ := gq_e hx66
              refine X_get (k := 0) C oTi fwTi_10 he64 hv65 dTi_count_89 ?_
              have hq := o_bind hR
              clear hR
              obtain ⟨a67, rfl, hR⟩ := hq
              have hq := o_bind hR
              clear hR
              obtain ⟨u68, hx72, hR⟩ := hq
              obtain ⟨fs69, he70, hv71⟩ := gi_e hx72
              refine X_get (k := 8) C oYa fwTi_225 he70 hv71 dTi_count_92 ?_
              refine X_if_eq (tgt := 112) C dTi_count_95 (by decide) (fun c73 => ?_) (fun c73 => ?_)
              · rw [if_pos c73] at hR
                refine X_bipush (v := (-2)) C dTi_count_112 (by decide) ?_
                rw [← Option.some.inj hR]
                exact X_iret C hr (Nat.le_refl _) (Nat.le_refl _) dTi_count_114 ⟨rfl, rfl, rfl⟩
              · rw [if_neg c73] at hR
                refine X_aload_n C dTi_count_98 rfl ?_
                have hq := o_bind hR
                clear hR
                obtain ⟨w74, hx78, hR⟩ := hq
                obtain ⟨fs75, he76, hv77⟩ := gq_e hx78
                refine X_get (k := 0) C oTi fwTi_10 he76 hv77 dTi_count_99 ?_
                have hq := o_bind hR
                clear hR
                obtain ⟨a79, rfl, hR⟩ := hq
                have hq := o_bind hR
                clear hR
                obtain ⟨w80, hx84, hR⟩ := hq
                obtain ⟨fs81, he82, hv83⟩ := gq_e hx84
                refine X_get (k := 9) C oYa fwTi_228 he82 hv83 dTi_count_102 ?_
                refine X_iload_n C dTi_count_105 rfl ?_
                refine X_iconst (v := 4) C dTi_count_106 rfl ?_
                refine X_isub C dTi_count_107 ?_
                have hq := o_bind hR
                clear hR
                obtain ⟨a85, rfl, hR⟩ := hq
                have hq := o_bind hR
                clear hR
                obtain ⟨u86, hx87, hR⟩ := hq
                obtain ⟨n88, f89, he90, hi91, e92⟩ := ai_e hx87
                refine X_iald C rfl he90 hi91 dTi_count_108 ?_
                rw [← e92]
                refine X_goto (tgt := 114) C dTi_count_109 (by decide) ?_
                rw [← Option.some.inj hR]
                exact X_iret C hr (Nat.le_refl _) (Nat.le_refl _) dTi_count_114 ⟨rfl, rfl, rfl⟩
            · rw [if_neg c61] at hR
              by_cases c93 : x1 = 6
              · rw [if_pos c93] at hR
                refine X_tableIn (off := 87) (tgt := 88) C dTi_count_1 (by rw [c93]; decide) (by rw [c93]; decide) (by rw [c93]; rfl) (by decide) ?_
                refine X_aload_n C dTi_count_88 rfl ?_
                have hq := o_bind hR
                clear hR
                obtain ⟨w94, hx98, hR⟩ := hq
                obtain ⟨fs95, he96, hv97⟩ := gq_e hx98
                refine X_get (k := 0) C oTi fwTi_10 he96 hv97 dTi_count_89 ?_
                have hq := o_bind hR
                clear hR
                obtain ⟨a99, rfl, hR⟩ := hq
                have hq := o_bind hR
                clear hR
                obtain ⟨u100, hx104, hR⟩ := hq
                obtain ⟨fs101, he102, hv103⟩ := gi_e hx104
                refine X_get (k := 8) C oYa fwTi_225 he102 hv103 dTi_count_92 ?_
                refine X_if_eq (tgt := 112) C dTi_count_95 (by decide) (fun c105 => ?_) (fun c105 => ?_)
                · rw [if_pos c105] at hR
                  refine X_bipush (v := (-2)) C dTi_count_112 (by decide) ?_
                  rw [← Option.some.inj hR]
                  exact X_iret C hr (Nat.le_refl _) (Nat.le_refl _) dTi_count_114 ⟨rfl, rfl, rfl⟩
                · rw [if_neg c105] at hR
                  refine X_aload_n C dTi_count_98 rfl ?_
                  have hq := o_bind hR
                  clear hR
                  obtain ⟨w106, hx110, hR⟩ := hq
                  obtain ⟨fs107, he108, hv109⟩ := gq_e hx110
                  refine X_get (k := 0) C oTi fwTi_10 he108 hv109 dTi_count_99 ?_
                  have hq := o_bind hR
                  clear hR
                  obtain ⟨a111, rfl, hR⟩ := hq
                  have hq := o_bind hR
                  clear hR
                  obtain ⟨w112, hx116, hR⟩ := hq
                  obtain ⟨fs113, he114, hv115⟩ := gq_e hx116
                  refine X_get (k := 9) C oYa fwTi_228 he114 hv115 dTi_count_102 ?_
                  refine X_iload_n C dTi_count_105 rfl ?_
                  refine X_iconst (v := 4) C dTi_count_106 rfl ?_
                  refine X_isub C dTi_count_107 ?_
                  have hq := o_bind hR
                  clear hR
                  obtain ⟨a117, rfl, hR⟩ := hq
                  have hq := o_bind hR
                  clear hR
                  obtain ⟨u118, hx119, hR⟩ := hq
                  obtain ⟨n120, f121, he122, hi123, e124⟩ := ai_e hx119
                  refine X_iald C rfl he122 hi123 dTi_count_108 ?_
                  rw [← e124]
                  refine X_goto (tgt := 114) C dTi_count_109 (by decide) ?_
                  rw [← Option.some.inj hR]
                  exact X_iret C hr (Nat.le_refl _) (Nat.le_refl _) dTi_count_114 ⟨rfl, rfl, rfl⟩
              · rw [if_neg c93] at hR
                by_cases c125 : x1 = 7
                · rw [if_pos c125] at hR
                  refine X_tableIn (off := 87) (tgt := 88) C dTi_count_1 (by rw [c125]; decide) (by rw [c125]; decide) (by rw [c125]; rfl) (by decide) ?_
                  refine X_aload_n C dTi_count_88 rfl ?_
                  have hq := o_bind hR
                  clear hR
                  obtain ⟨w126, hx130, hR⟩ := hq
                  obtain ⟨fs127, he128, hv129⟩ := gq_e hx130
                  refine X_get (k := 0) C oTi fwTi_10 he128 hv129 dTi_count_89 ?_
                  have hq := o_bind hR
                  clear hR
                  obtain ⟨a131, rfl, hR⟩ := hq
                  have hq := o_bind hR
                  clear hR
                  obtain ⟨u132, hx136, hR⟩ := hq
                  obtain ⟨fs133, he134, hv135⟩ := gi_e hx136
                  refine X_get (k := 8) C oYa fwTi_225 he134 hv135 dTi_count_92 ?_
                  refine X_if_eq (tgt := 112) C dTi_count_95 (by decide) (fun c137 => ?_) (fun c137 => ?_)
                  · rw [if_pos c137] at hR
                    refine X_bipush (v := (-2)) C dTi_count_112 (by decide) ?_
                    rw [← Option.some.inj hR]
                    exact X_iret C hr (Nat.le_refl _) (Nat.le_refl _) dTi_count_114 ⟨rfl, rfl, rfl⟩
                  · rw [if_neg c137] at hR
                    refine X_aload_n C dTi_count_98 rfl ?_
                    have hq := o_bind hR
                    clear hR
                    obtain ⟨w138, hx142, hR⟩ := hq
                    obtain ⟨fs139, he140, hv141⟩ := gq_e hx142
                    refine X_get (k := 0) C oTi fwTi_10 he140 hv141 dTi_count_99 ?_
                    have hq := o_bind hR
                    clear hR
                    obtain ⟨a143, rfl, hR⟩ := hq
                    have hq := o_bind hR
                    clear hR
                    obtain ⟨w144, hx148, hR⟩ := hq
                    obtain ⟨fs145, he146, hv147⟩ := gq_e hx148
                    refine X_get (k := 9) C oYa fwTi_228 he146 hv147 dTi_count_102 ?_
                    refine X_iload_n C dTi_count_105 rfl ?_
                    refine X_iconst (v := 4) C dTi_count_106 rfl ?_
                    refine X_isub C dTi_count_107 ?_
                    have hq := o_bind hR
                    clear hR
                    obtain ⟨a149, rfl, hR⟩ := hq
                    have hq := o_bind hR
                    clear hR
                    obtain ⟨u150, hx151, hR⟩ := hq
                    obtain ⟨n152, f153, he154, hi155, e156⟩ := ai_e hx151
                    refine X_iald C rfl he154 hi155 dTi_count_108 ?_
                    rw [← e156]
                    refine X_goto (tgt := 114) C dTi_count_109 (by decide) ?_
                    rw [← Option.some.inj hR]
                    exact X_iret C hr (Nat.le_refl _) (Nat.le_refl _) dTi_count_114 ⟨rfl, rfl, rfl⟩
                · rw [if_neg c125] at hR
                  have ec1 := lv_neT (a := 0) c1 (by decide)
                  have ec13 := lv_neT (a := 1) c13 (by decide)
                  have ec25 := lv_neT (a := 2) c25 (by decide)
                  have ec37 := lv_neT (a := 3) c37 (by decide)
                  have ec49 := lv_neT (a := 4) c49 (by decide)
                  have ec61 := lv_neT (a := 5) c61 (by decide)
                  have ec93 := lv_neT (a := 6) c93 (by decide)
                  have ec125 := lv_neT (a := 7) c125 (by decide)
                  refine X_tableOut (tgt := 115) C dTi_count_1 (by omega) (by decide) ?_
                  refine X_iconst (v := (-1)) C dTi_count_115 rfl ?_
                  rw [← Option.some.inj hR]
                  exact X_iret C hr (Nat.le_refl _) (Nat.le_refl _) dTi_count_116 ⟨rfl, rfl, rfl⟩
theorem Ti_count_c {l : Launch} {G : xG} {B sz : Nat} {o : Nat} {n : Nat} {x1 : Int32} {h : xH} {R : Int32 × xH} (hR : Ti_count_f n o x1 h = some R) : xCon l yTi_count cTi_count 2 (some .int) 0 0 0 0 G B [.ref (o), .int (x1)] h sz (kP (some (.int R.1)) R.2 sz) := xCon.of (by decide) (by exact Nat.le_of_ble_eq_true rfl) (fun F e C hr hnm => X_sub (lv' := [(0, .ref (o)), (1, .int (x1))]) [0, 1] rfl (Ti_count_x C hr hR))
def Ti_isShelf_f (n : Nat) (x0 : Int32) (h : xH) : Option (Int32 × xH) := (if x0 < 0 then some ((0 : Int32), h) else (if (8 : Int32) ≤ x0 then some ((0 : Int32), h) else some ((1 : Int32), h)))
set_option maxRecDepth 100000 in
set_option maxHeartbeats 8000000 in
theorem Ti_isShelf_x {F : xF} {G : xG} {B sz : Nat} (C : xC F G B cTi_isShelf RTi 1 0 0 0 0) (hr : (xFM F).sig.returnType = (some .boolean)) {n : Nat} {x0 : Int32} {h : xH} {R : Int32 × xH} (hR : Ti_isShelf_f n x0 h = some R) : X F G B (xZ F G B (kP (some (.int R.1)) R.2 sz) 0 0) 1 h sz 0 0 0 [(0, .int (x0))] [] := by
  unfold Ti_isShelf_f at hR
  refine X_iload_n C dTi_isShelf_0 rfl ?_
  refine X_if_lt (tgt := 14) C dTi_isShelf_1 (by decide) (fun c1 => ?_) (fun c1 => ?_)
  · rw [if_pos c1] at hR
    refine X_iconst (v := 0) C dTi_isShelf_14 rfl ?_
    rw [← Option.some.inj hR]
    exact X_zret C hr rfl (Nat.le_refl _) (Nat.le_refl _) dTi_isShelf_15 ⟨rfl, rfl, rfl⟩
  · rw [if_neg c1] at hR
    refine X_iload_n C dTi_isShelf_4 rfl ?_
    refine X_bipush (v := 8) C dTi_isShelf_5 (by decide) ?_
    refine X_icmp_ge (tgt := 14) C dTi_isShelf_7 (by decide) (fun c2 => ?_) (fun c2 => ?_)
    · rw [if_pos c2] at hR
      refine X_iconst (v := 0) C dTi_isShelf_14 rfl ?_
      rw [← Option.some.inj hR]
      exact X_zret C hr rfl (Nat.le_refl _) (Nat.le_refl _) dTi_isShelf_15 ⟨rfl, rfl, rfl⟩
    · rw [if_neg c2] at hR
      refine X_iconst (v := 1) C dTi_isShelf_10 rfl ?_
      refine X_goto (tgt := 15) C dTi_isShelf_11 (by decide) ?_
      rw [← Option.some.inj hR]
      exact X_zret C hr rfl (Nat.le_refl _) (Nat.le_refl _) dTi_isShelf_15 ⟨rfl, rfl, rfl⟩
theorem Ti_isShelf_c {l : Launch} {G : xG} {B sz : Nat} {n : Nat} {x0 : Int32} {h : xH} {R : Int32 × xH} (hR : Ti_isShelf_f n x0 h = some R) : xCon l yTi_isShelf cTi_isShelf 1 (some .boolean) 0 0 0 0 G B [.int (x0)] h sz (kP (some (.int R.1)) R.2 sz) := xCon.of (by decide) (by exact Nat.le_of_ble_eq_true rfl) (fun F e C hr hnm => X_sub (lv' := [(0, .int (x0))]) [0] rfl (Ti_isShelf_x C hr hR))
def Ti_rowOfPlaces_t0 (f : Nat → Int32 → Option Nat → Int32 → xH → Nat → Option (Option Nat × xH × Nat × Nat)) (n : Nat) (o : Nat) (x1 : Int32) (y2 : Option Nat) (x3 : Int32) (h : xH) (z : Nat) : Option (Option Nat × xH × Nat × Nat) := obd (gq h (o) 4 0) (fun w1 => obd w1 (fun a6 => obd (gi h (a6) 3 3) (fun u7 => (if nb ((if (if (60 : Int32) < u7 then (60 : Int32) else u7) < (0 : Int32) then (0 : Int32) else (if (60 : Int32) < u7 then (60 : Int32) else u7))) = true then oadd 1 (Int32.toNatClampNeg ((if (if (60 : Int32) < u7 then (60 : Int32) else u7) < (0 : Int32) then (0 : Int32) else (if (60 : Int32) < u7 then (60 : Int32) else u7)))) (bnd (xup h (z) (.inl (3, (Int32.toNatClampNeg ((if (if (60 : Int32) < u7 then (60 : Int32) else u7) < (0 : Int32) then (0 : Int32) else (if (60 : Int32) < u7 then (60 : Int32) else u7)))), .inl (fun _ => 0)))) (fun h13 => f 23 ((if (60 : Int32) < u7 then (60 : Int32) else u7)) (some (z)) ((0 : Int32)) h13 (z + 1))) else none))))
def Ti_rowOfPlaces_t23 (f : Nat → Int32 → Option Nat → Int32 → xH → Nat → Option (Option Nat × xH × Nat × Nat)) (n : Nat) (o : Nat) (x1 : Int32) (y2 : Option Nat) (x3 : Int32) (h : xH) (z : Nat) : Option (Option Nat × xH × Nat × Nat) := obd y2 (fun a17 => obd (al h (a17) 3) (fun u18 => (if u18 ≤ x3 then oadd 1 1 (bnd (xup h (z) (.inr (8, [.null]))) (fun h24 => obd (Sr_init_f n (z) (some (a17)) h24) (fun r28 => some ((some (z)), r28.2, 0, 0)))) else obd (gq h (o) 4 0) (fun w29 => obd w29 (fun a34 => (if kc h (a34) 3 = true then obd (Ya_stateAt_f n (a34) (x3) h) (fun r35 => bnd (r35.1) (fun w36 => oel (w36) (obd (pa r35.2 (a17) 3 (x3) ((0 : Int32))) (fun h40 => f 23 (x1) (some (a17)) (x3 + 1) h40 (z))) (fun a38 => obd (gq r35.2 (a38) 2 1) (fun w47 => obd w47 (fun a52 => obd (ai r35.2 (a52) 0 ((0 : Int32))) (fun u53 => obd (pa r35.2 (a17) 3 (x3) (Int16.toInt32 (Int32.toInt16 (u53)))) (fun h60 => f 23 (x1) (some (a17)) (x3 + 1) h60 (z)))))))) else none))))))
def Ti_rowOfPlaces_f : Nat → Nat → Nat → Int32 → Option Nat → Int32 → xH → Nat → Option (Option Nat × xH × Nat × Nat)
  | 0 => fun _ _ _ _ _ _ _ => none
  | n + 1 => fun p o x1 y2 x3 h z => if p = 0 then Ti_rowOfPlaces_t0 (fun p x1 y2 x3 h z => Ti_rowOfPlaces_f n p o x1 y2 x3 h z) n o x1 y2 x3 h z else if p = 23 then Ti_rowOfPlaces_t23 (fun p x1 y2 x3 h z => Ti_rowOfPlaces_f n p o x1 y2 x3 h z) n o x1 y2 x3 h z else none
theorem Ti_rowOfPlaces_e0 (n : Nat) (o : Nat) (x1 : Int32) (y2 : Option Nat) (x3 : Int32) (h : xH) (z : Nat) : Ti_rowOfPlaces_f (n + 1) 0 o x1 y2 x3 h z = Ti_rowOfPlaces_t0 (fun p x1 y2 x3 h z => Ti_rowOfPlaces_f n p o x1 y2 x3 h z) n o x1 y2 x3 h z := by
  show (if 0 = 0 then Ti_rowOfPlaces_t0 (fun p x1 y2 x3 h z => Ti_rowOfPlaces_f n p o x1 y2 x3 h z) n o x1 y2 x3 h z else if 0 = 23 then Ti_rowOfPlaces_t23 (fun p x1 y2 x3 h z => Ti_rowOfPlaces_f n p o x1 y2 x3 h z) n o x1 y2 x3 h z else none) = _
  rw [if_pos rfl]
theorem Ti_rowOfPlaces_e23 (n : Nat) (o : Nat) (x1 : Int32) (y2 : Option Nat) (x3 : Int32) (h : xH) (z : Nat) : Ti_rowOfPlaces_f (n + 1) 23 o x1 y2 x3 h z = Ti_rowOfPlaces_t23 (fun p x1 y2 x3 h z => Ti_rowOfPlaces_f n p o x1 y2 x3 h z) n o x1 y2 x3 h z := by
  show (if 23 = 0 then Ti_rowOfPlaces_t0 (fun p x1 y2 x3 h z => Ti_rowOfPlaces_f n p o x1 y2 x3 h z) n o x1 y2 x3 h z else if 23 = 23 then Ti_rowOfPlaces_t23 (fun p x1 y2 x3 h z => Ti_rowOfPlaces_f n p o x1 y2 x3 h z) n o x1 y2 x3 h z else none) = _
  rw [if_neg (by decide), if_pos rfl]
set_option maxRecDepth 100000 in
set_option maxHeartbeats 8000000 in
theorem Ti_rowOfPlaces_x {F : xF} {G : xG} {B mc ms : Nat} {o : Nat} (C : xC F G B cTi_rowOfPlaces RTi 5 4 82 mc ms) (hr : (xFM F).sig.returnType = (some (.object "TimedYard$ShortRow"))) : ∀ (n : Nat) (x1 : Int32) (y2 : Option Nat) (x3 : Int32) (h : xH) (z cs ss : Nat) (R : Option Nat × xH × Nat × Nat) (Zf : Nat), cs + R.2.2.1 ≤ mc → ss + R.2.2.2 ≤ ms → Zf = z + R.2.2.1 → ((Ti_rowOfPlaces_f n 0 o x1 y2 x3 h z = some R → X F G B (xZ F G B (kP (some (va_rf R.1)) R.2.1 Zf) mc ms) 5 h z cs ss 0 [(0, .ref (o))] []) ∧ (Ti_rowOfPlaces_f n 23 o x1 y2 x3 h z = some R → X F G B (xZ F G B (kP (some (va_rf R.1)) R.2.1 Zf) mc ms) 5 h z cs ss 23 [(0, .ref (o)), (1, .int (x1)), (2, va_rf (y2)), (3, .int (x3))] [])) := by
  intro n
  induction n with
  | zero => exact fun _ _ _ _ _ _ _ _ _ _ _ _ => ⟨(fun hR => nomatch (show (none : Option _) = some _ from hR)), (fun hR => nomatch (show (none : Option _) = some _ from hR))⟩
  | succ n ih =>
    intro x1 y2 x3 h z cs ss R Zf hm hs hz
    refine ⟨fun hR => ?_, fun hR => ?_⟩
    · rw [Ti_rowOfPlaces_e0] at hR
      unfold Ti_rowOfPlaces_t0 at hR
      refine X_aload_n C dTi_rowOfPlaces_0 rfl ?_
      have hq := o_bind hR
      clear hR
      obtain ⟨w1, hx5, hR⟩ := hq
      obtain ⟨fs2, he3, hv4⟩ := gq_e hx5
      refine X_get (k := 0) C oTi fwTi_10 he3 hv4 dTi_rowOfPlaces_1 ?_
      have hq := o_bind hR
      clear hR
      obtain ⟨a6, rfl, hR⟩ := hq
      have hq := o_bind hR
      clear hR
      obtain ⟨u7, hx11, hR⟩ := hq
      obtain ⟨fs8, he9, hv10⟩ := gi_e hx11
      refine X_get (k := 3) C oYa fwTi_129 he9 hv10 dTi_rowOfPlaces_4 ?_
      refine X_bipush (v := 60) C dTi_rowOfPlaces_7 (by decide) ?_
      refine X_min C mwTi_293 ⟨by decide, Nat.le_of_ble_eq_true rfl⟩ ⟨by omega, by omega⟩ dTi_rowOfPlaces_9 ?_
      refine X_istore_n (lv' := [(1, .int ((if (60 : Int32) < u7 then (60 : Int32) else u7))), (0, .ref (o))]) C dTi_rowOfPlaces_12 (by decide) rfl ?_
      refine X_iload_n C dTi_rowOfPlaces_13 rfl ?_
      refine X_iconst (v := 0) C dTi_rowOfPlaces_14 rfl ?_
      refine X_max C mwTi_298 ⟨by decide, Nat.le_of_ble_eq_true rfl⟩ ⟨by omega, by omega⟩ dTi_rowOfPlaces_15 ?_
      have hq := o_if hR
      clear hR
      obtain ⟨b12, hR⟩ := hq
      have hq := o_add hR
      clear hR
      obtain ⟨R16, e15, hR⟩ := hq
      subst e15
      dsimp only at hm hs hz ⊢
      refine X_newa (k := 3) (N := (Int32.toNatClampNeg ((if (if (60 : Int32) < u7 then (60 : Int32) else u7) < (0 : Int32) then (0 : Int32) else (if (60 : Int32) < u7 then (60 : Int32) else u7))))) (ty := .short) (a0 := ((Int32.toNatClampNeg ((if (if (60 : Int32) < u7 then (60 : Int32) else u7) < (0 : Int32) then (0 : Int32) else (if (60 : Int32) < u7 then (60 : Int32) else u7)))), .inl (fun _ => 0))) C rfl na_short (fun _ => rfl) (nb_e b12).1 rfl (by have := (nb_e b12).2; simp only [componentBytes]; omega) (by omega) (by omega) dTi_rowOfPlaces_18 (fun _ _ => ?_)
      have hq := b_bnd hR
      clear hR
      obtain ⟨h13, e14, hR⟩ := hq
      rw [← e14]
      refine X_astore_n (lv' := [(2, .ref (z)), (1, .int ((if (60 : Int32) < u7 then (60 : Int32) else u7))), (0, .ref (o))]) C dTi_rowOfPlaces_20 (by decide) rfl ?_
      refine X_iconst (v := 0) C dTi_rowOfPlaces_21 rfl ?_
      refine X_istore_n (lv' := [(3, .int ((0 : Int32))), (2, .ref (z)), (1, .int ((if (60 : Int32) < u7 then (60 : Int32) else u7))), (0, .ref (o))]) C dTi_rowOfPlaces_22 (by decide) rfl ?_
      refine X_sub (lv' := [(0, .ref (o)), (1, .int ((if (60 : Int32) < u7 then (60 : Int32) else u7))), (2, va_rf ((some (z)))), (3, .int ((0 : Int32)))]) [3, 2, 1, 0] rfl ?_
      exact (ih ((if (60 : Int32) < u7 then (60 : Int32) else u7)) (some (z)) ((0 : Int32)) _ _ _ _ _ _ (by omega) (by omega) (by omega)).2 hR
    · rw [Ti_rowOfPlaces_e23] at hR
      unfold Ti_rowOfPlaces_t23 at hR
      refine X_iload_n C dTi_rowOfPlaces_23 rfl ?_
      refine X_aload_nq C dTi_rowOfPlaces_24 rfl ?_
      have hq := o_bind hR
      clear hR
      obtain ⟨a17, rfl, hR⟩ := hq
      have hq := o_bind hR
      clear hR
      obtain ⟨u18, hx19, hR⟩ := hq
      obtain ⟨v20, he21, e22⟩ := al_e hx19
      refine X_alen C rfl he21 e22 dTi_rowOfPlaces_25 ?_
      refine X_icmp_ge (tgt := 65) C dTi_rowOfPlaces_26 (by decide) (fun c23 => ?_) (fun c23 => ?_)
      · rw [if_pos c23] at hR
        have hq := o_add hR
        clear hR
        obtain ⟨R27, e26, hR⟩ := hq
        subst e26
        dsimp only at hm hs hz ⊢
        refine X_new (fs := [.null]) C oSr nwTi_238 (fun j hj => by rcases (show j = 0 by omega) with rfl <;> rfl) (by omega) (by omega) dTi_rowOfPlaces_65 (fun _ _ => ?_)
        have hq := b_bnd hR
        clear hR
        obtain ⟨h24, e25, hR⟩ := hq
        rw [← e25]
        refine X_dup C dTi_rowOfPlaces_68 rfl ?_
        refine X_aload_n C dTi_rowOfPlaces_69 rfl ?_
        have hq := o_bind hR
        clear hR
        obtain ⟨r28, hr28, hR⟩ := hq
        refine X_callIk (As := [.ref (a17)]) (rest := [.ref (z)]) C (Sr_init_c hr28) wTi_240 ⟨by decide, by decide⟩ ⟨by omega, by omega⟩ rfl rfl (Nat.le_of_ble_eq_true rfl) dTi_rowOfPlaces_70 ?_
        show X F G B _ 5 (r28.2) _ _ _ _ _ [.ref (z)]
        have hR := Option.some.inj hR
        subst hR
        dsimp only at hm hs hz ⊢
        exact X_aret C hr (Or.inl ⟨_, rfl⟩) (Or.inr ⟨_, rfl⟩) (by omega) (by omega) dTi_rowOfPlaces_73 ⟨rfl, rfl, by omega⟩
      · rw [if_neg c23] at hR
        refine X_aload_n C dTi_rowOfPlaces_29 rfl ?_
        have hq := o_bind hR
        clear hR
        obtain ⟨w29, hx33, hR⟩ := hq
        obtain ⟨fs30, he31, hv32⟩ := gq_e hx33
        refine X_get (k := 0) C oTi fwTi_10 he31 hv32 dTi_rowOfPlaces_30 ?_
        refine X_iload_n C dTi_rowOfPlaces_33 rfl ?_
        have hq := o_bind hR
        clear hR
        obtain ⟨a34, rfl, hR⟩ := hq
        have hq := o_if hR
        clear hR
        obtain ⟨k67, hR⟩ := hq
        obtain ⟨fs68, he69⟩ := kc_e k67
        have hq := o_bind hR
        clear hR
        obtain ⟨r35, hr35, hR⟩ := hq
        refine X_callVk (As := [.int (x3)]) (rest := []) C (Ya_stateAt_c hr35) wTi_121 ⟨by decide, by decide⟩ ⟨by omega, by omega⟩ he69 oYa.2.1 rfl rfl (Nat.le_of_ble_eq_true rfl) dTi_rowOfPlaces_34 ?_
        show X F G B _ 5 (r35.2) _ _ _ _ _ [va_rf (r35.1)]
        have hq := b_bnd hR
        clear hR
        obtain ⟨w36, e37, hR⟩ := hq
        rw [← e37]
        refine X_astoreq (lv' := [(4, va_rf (w36)), (0, .ref (o)), (1, .int (x1)), (2, .ref (a17)), (3, .int (x3))]) C dTi_rowOfPlaces_37 (by decide) rfl ?_
        refine X_aload_n C dTi_rowOfPlaces_39 rfl ?_
        refine X_iload_n C dTi_rowOfPlaces_40 rfl ?_
        refine X_aloadq C dTi_rowOfPlaces_41 rfl ?_
        refine X_ifnonnullq (tgt := 50) C dTi_rowOfPlaces_43 (by decide) (fun a38 e39 => ?_) (fun e39 => ?_)
        · subst e39
          rw [oel_s] at hR
          refine X_aload C dTi_rowOfPlaces_50 rfl ?_
          have hq := o_bind hR
          clear hR
          obtain ⟨w47, hx51, hR⟩ := hq
          obtain ⟨fs48, he49, hv50⟩ := gq_e hx51
          refine X_get (k := 1) C oSt fwTi_132 he49 hv50 dTi_rowOfPlaces_52 ?_
          refine X_iconst (v := 0) C dTi_rowOfPlaces_55 rfl ?_
          have hq := o_bind hR
          clear hR
          obtain ⟨a52, rfl, hR⟩ := hq
          have hq := o_bind hR
          clear hR
          obtain ⟨u53, hx54, hR⟩ := hq
          obtain ⟨n55, f56, he57, hi58, e59⟩ := ai_e hx54
          refine X_iald C rfl he57 hi58 dTi_rowOfPlaces_56 ?_
          rw [← e59]
          refine X_i2s C dTi_rowOfPlaces_57 ?_
          have hq := o_bind hR
          clear hR
          obtain ⟨h60, hh61, hR⟩ := hq
          obtain ⟨n62, f63, he64, hi65, e66⟩ := pa_e hh61
          refine X_sast C rfl he64 hi65 (pk_vs _) dTi_rowOfPlaces_58 ?_
          rw [← e66]
          refine X_iinc (v := x3 + 1) (lv' := [(3, .int (x3 + 1)), (4, .ref (a38)), (0, .ref (o)), (1, .int (x1)), (2, .ref (a17))]) C dTi_rowOfPlaces_59 rfl rfl (by decide) rfl ?_
          refine X_goto (tgt := 23) C dTi_rowOfPlaces_62 (by decide) ?_
          refine X_sub (lv' := [(0, .ref (o)), (1, .int (x1)), (2, va_rf ((some (a17)))), (3, .int (x3 + 1))]) [2, 3, 4, 0] rfl ?_
          exact (ih (x1) (some (a17)) (x3 + 1) _ _ _ _ _ _ (by omega) (by omega) (by omega)).2 hR
        · subst e39
          rw [oel_n] at hR
          refine X_iconst (v := 0) C dTi_rowOfPlaces_46 rfl ?_
          refine X_goto (tgt := 58) C dTi_rowOfPlaces_47 (by decide) ?_
          have hq := o_bind hR
          clear hR
          obtain ⟨h40, hh41, hR⟩ := hq
          obtain ⟨n42, f43, he44, hi45, e46⟩ := pa_e hh41
          refine X_sast C rfl he44 hi45 rfl dTi_rowOfPlaces_58 ?_
          rw [← e46]
          refine X_iinc (v := x3 + 1) (lv' := [(3, .int (x3 + 1)), (4, .null), (0, .ref (o)), (1, .int (x1)), (2, .ref (a17))]) C dTi_rowOfPlaces_59 rfl rfl (by decide) rfl ?_
          refine X_goto (tgt := 23) C dTi_rowOfPlaces_62 (by decide) ?_
          refine X_sub (lv' := [(0, .ref (o)), (1, .int (x1)), (2, va_rf ((some (a17)))), (3, .int (x3 + 1))]) [2, 3, 4, 0] rfl ?_
          exact (ih (x1) (some (a17)) (x3 + 1) _ _ _ _ _ _ (by omega) (by omega) (by omega)).2 hR
theorem Ti_rowOfPlaces_c {l : Launch} {G : xG} {B sz : Nat} {o : Nat} {n : Nat} {h : xH} {R : Option Nat × xH × Nat × Nat} (hR : Ti_rowOfPlaces_f n 0 o 0 none 0 h sz = some R) : xCon l yTi_rowOfPlaces cTi_rowOfPlaces 5 (some (.object "TimedYard$ShortRow")) 4 82 R.2.2.1 R.2.2.2 G B [.ref (o)] h sz (kP (some (va_rf R.1)) R.2.1 (sz + R.2.2.1)) := xCon.of (by decide) (by exact Nat.le_of_ble_eq_true rfl) (fun F e C hr hnm => X_sub (lv' := [(0, .ref (o))]) [0] rfl ((Ti_rowOfPlaces_x C hr n 0 none 0 h sz 0 0 R _ (Nat.le_of_eq (Nat.zero_add _)) (Nat.le_of_eq (Nat.zero_add _)) rfl).1 hR))
def Ti_rowOfBounds_t0 (f : Nat → Option Nat → Option Nat → Int32 → xH → Nat → Option (Option Nat × xH × Nat × Nat)) (n : Nat) (y0 : Option Nat) (y1 : Option Nat) (x2 : Int32) (h : xH) (z : Nat) : Option (Option Nat × xH × Nat × Nat) := oadd 1 16 (bnd (xup h (z) (.inl (1, 16, .inr (.inl (fun _ => 0))))) (fun h1 => f 7 (y0) (some (z)) ((0 : Int32)) h1 (z + 1)))
def Ti_rowOfBounds_t7 (f : Nat → Option Nat → Option Nat → Int32 → xH → Nat → Option (Option Nat × xH × Nat × Nat)) (n : Nat) (y0 : Option Nat) (y1 : Option Nat) (x2 : Int32) (h : xH) (z : Nat) : Option (Option Nat × xH × Nat × Nat) := obd y1 (fun a5 => obd (al h (a5) 1) (fun u6 => (if u6 ≤ x2 then oadd 1 1 (bnd (xup h (z) (.inr (9, [.null]))) (fun h12 => obd (Lr_init_f n (z) (some (a5)) h12) (fun r16 => some ((some (z)), r16.2, 0, 0)))) else obd y0 (fun a17 => (if kc h (a17) 1 = true then obd (Zo_at_f n (a17) ((x2) / ((4 : Int32))) ((x2) - (x2) / ((4 : Int32)) * ((4 : Int32))) h) (fun r18 => obd (pl r18.2 (a5) (x2) (Int32.toInt64 (r18.1))) (fun h19 => f 7 (some (a17)) (some (a5)) (x2 + 1) h19 (z))) else none)))))
def Ti_rowOfBounds_f : Nat → Nat → Option Nat → Option Nat → Int32 → xH → Nat → Option (Option Nat × xH × Nat × Nat)
  | 0 => fun _ _ _ _ _ _ => none
  | n + 1 => fun p y0 y1 x2 h z => if p = 0 then Ti_rowOfBounds_t0 (Ti_rowOfBounds_f n) n y0 y1 x2 h z else if p = 7 then Ti_rowOfBounds_t7 (Ti_rowOfBounds_f n) n y0 y1 x2 h z else none
theorem Ti_rowOfBounds_e0 (n : Nat) (y0 : Option Nat) (y1 : Option Nat) (x2 : Int32) (h : xH) (z : Nat) : Ti_rowOfBounds_f (n + 1) 0 y0 y1 x2 h z = Ti_rowOfBounds_t0 (Ti_rowOfBounds_f n) n y0 y1 x2 h z := by
  show (if 0 = 0 then Ti_rowOfBounds_t0 (Ti_rowOfBounds_f n) n y0 y1 x2 h z else if 0 = 7 then Ti_rowOfBounds_t7 (Ti_rowOfBounds_f n) n y0 y1 x2 h z else none) = _
  rw [if_pos rfl]
theorem Ti_rowOfBounds_e7 (n : Nat) (y0 : Option Nat) (y1 : Option Nat) (x2 : Int32) (h : xH) (z : Nat) : Ti_rowOfBounds_f (n + 1) 7 y0 y1 x2 h z = Ti_rowOfBounds_t7 (Ti_rowOfBounds_f n) n y0 y1 x2 h z := by
  show (if 7 = 0 then Ti_rowOfBounds_t0 (Ti_rowOfBounds_f n) n y0 y1 x2 h z else if 7 = 7 then Ti_rowOfBounds_t7 (Ti_rowOfBounds_f n) n y0 y1 x2 h z else none) = _
  rw [if_neg (by decide), if_pos rfl]
set_option maxRecDepth 100000 in
set_option maxHeartbeats 8000000 in
theorem Ti_rowOfBounds_x {F : xF} {G : xG} {B mc ms : Nat} (C : xC F G B cTi_rowOfBounds RTi 3 4 82 mc ms) (hr : (xFM F).sig.returnType = (some (.object "TimedYard$LongRow"))) : ∀ (n : Nat) (y0 : Option Nat) (y1 : Option Nat) (x2 : Int32) (h : xH) (z cs ss : Nat) (R : Option Nat × xH × Nat × Nat) (Zf : Nat), cs + R.2.2.1 ≤ mc → ss + R.2.2.2 ≤ ms → Zf = z + R.2.2.1 → ((Ti_rowOfBounds_f n 0 y0 y1 x2 h z = some R → X F G B (xZ F G B (kP (some (va_rf R.1)) R.2.1 Zf) mc ms) 3 h z cs ss 0 [(0, va_rf (y0))] []) ∧ (Ti_rowOfBounds_f n 7 y0 y1 x2 h z = some R → X F G B (xZ F G B (kP (some (va_rf R.1)) R.2.1 Zf) mc ms) 3 h z cs ss 7 [(0, va_rf (y0)), (1, va_rf (y1)), (2, .int (x2))] [])) := by
  intro n
  induction n with
  | zero => exact fun _ _ _ _ _ _ _ _ _ _ _ _ => ⟨(fun hR => nomatch (show (none : Option _) = some _ from hR)), (fun hR => nomatch (show (none : Option _) = some _ from hR))⟩
  | succ n ih =>
    intro y0 y1 x2 h z cs ss R Zf hm hs hz
    refine ⟨fun hR => ?_, fun hR => ?_⟩
    · rw [Ti_rowOfBounds_e0] at hR
      unfold Ti_rowOfBounds_t0 at hR
      refine X_bipush (v := 16) C dTi_rowOfBounds_0 (by decide) ?_
      have hq := o_add hR
      clear hR
      obtain ⟨R4, e3, hR⟩ := hq
      subst e3
      dsimp only at hm hs hz ⊢
      refine X_newa (k := 1) (N := 16) (ty := .long) (a0 := (16, .inr (.inl (fun _ => 0)))) C rfl na_long (fun _ => rfl) (by decide) (by decide) (by decide) (by omega) (by omega) dTi_rowOfBounds_2 (fun _ _ => ?_)
      have hq := b_bnd hR
      clear hR
      obtain ⟨h1, e2, hR⟩ := hq
      rw [← e2]
      refine X_astore_n (lv' := [(1, .ref (z)), (0, va_rf (y0))]) C dTi_rowOfBounds_4 (by decide) (by simp [rf_cat, cat_i, cat_r, cat_l, rf_n, rf_s] <;> decide) ?_
      refine X_iconst (v := 0) C dTi_rowOfBounds_5 rfl ?_
      refine X_istore_n (lv' := [(2, .int ((0 : Int32))), (1, .ref (z)), (0, va_rf (y0))]) C dTi_rowOfBounds_6 (by decide) (by simp [rf_cat, cat_i, cat_r, cat_l, rf_n, rf_s] <;> decide) ?_
      refine X_sub (lv' := [(0, va_rf ((y0))), (1, va_rf ((some (z)))), (2, .int ((0 : Int32)))]) [2, 1, 0] rfl ?_
      exact (ih (y0) (some (z)) ((0 : Int32)) _ _ _ _ _ _ (by omega) (by omega) (by omega)).2 hR
    · rw [Ti_rowOfBounds_e7] at hR
      unfold Ti_rowOfBounds_t7 at hR
      refine X_iload_n C dTi_rowOfBounds_7 rfl ?_
      refine X_aload_nq C dTi_rowOfBounds_8 rfl ?_
      have hq := o_bind hR
      clear hR
      obtain ⟨a5, rfl, hR⟩ := hq
      have hq := o_bind hR
      clear hR
      obtain ⟨u6, hx7, hR⟩ := hq
      obtain ⟨v8, he9, e10⟩ := al_e hx7
      refine X_alen C rfl he9 e10 dTi_rowOfBounds_9 ?_
      refine X_icmp_ge (tgt := 33) C dTi_rowOfBounds_10 (by decide) (fun c11 => ?_) (fun c11 => ?_)
      · rw [if_pos c11] at hR
        have hq := o_add hR
        clear hR
        obtain ⟨R15, e14, hR⟩ := hq
        subst e14
        dsimp only at hm hs hz ⊢
        refine X_new (fs := [.null]) C oLr nwTi_243 (fun j hj => by rcases (show j = 0 by omega) with rfl <;> rfl) (by omega) (by omega) dTi_rowOfBounds_33 (fun _ _ => ?_)
        have hq := b_bnd hR
        clear hR
        obtain ⟨h12, e13, hR⟩ := hq
        rw [← e13]
        refine X_dup C dTi_rowOfBounds_36 rfl ?_
        refine X_aload_n C dTi_rowOfBounds_37 rfl ?_
        have hq := o_bind hR
        clear hR
        obtain ⟨r16, hr16, hR⟩ := hq
        refine X_callIk (As := [.ref (a5)]) (rest := [.ref (z)]) C (Lr_init_c hr16) wTi_245 ⟨by decide, by decide⟩ ⟨by omega, by omega⟩ rfl rfl (Nat.le_of_ble_eq_true rfl) dTi_rowOfBounds_38 ?_
        show X F G B _ 3 (r16.2) _ _ _ _ _ [.ref (z)]
        have hR := Option.some.inj hR
        subst hR
        dsimp only at hm hs hz ⊢
        exact X_aret C hr (Or.inl ⟨_, rfl⟩) (Or.inr ⟨_, rfl⟩) (by omega) (by omega) dTi_rowOfBounds_41 ⟨rfl, rfl, by omega⟩
      · rw [if_neg c11] at hR
        refine X_aload_n C dTi_rowOfBounds_13 rfl ?_
        refine X_iload_n C dTi_rowOfBounds_14 rfl ?_
        refine X_aload_nq C dTi_rowOfBounds_15 rfl ?_
        refine X_iload_n C dTi_rowOfBounds_16 rfl ?_
        refine X_iconst (v := 4) C dTi_rowOfBounds_17 rfl ?_
        refine X_idiv C dTi_rowOfBounds_18 (by decide) ?_
        refine X_iload_n C dTi_rowOfBounds_19 rfl ?_
        refine X_iconst (v := 4) C dTi_rowOfBounds_20 rfl ?_
        refine X_irem C dTi_rowOfBounds_21 (by decide) ?_
        have hq := o_bind hR
        clear hR
        obtain ⟨a17, rfl, hR⟩ := hq
        have hq := o_if hR
        clear hR
        obtain ⟨k26, hR⟩ := hq
        obtain ⟨fs27, he28⟩ := kc_e k26
        have hq := o_bind hR
        clear hR
        obtain ⟨r18, hr18, hR⟩ := hq
        refine X_callVk (As := [.int ((x2) / ((4 : Int32))), .int ((x2) - (x2) / ((4 : Int32)) * ((4 : Int32)))]) (rest := [.int (x2), .ref (a5)]) C (Zo_at_c hr18) wTi_161 ⟨by decide, by decide⟩ ⟨by omega, by omega⟩ he28 oZo.2.1 rfl rfl (Nat.le_of_ble_eq_true rfl) dTi_rowOfBounds_22 ?_
        show X F G B _ 3 (r18.2) _ _ _ _ _ [.int (r18.1), .int (x2), .ref (a5)]
        refine X_i2l C dTi_rowOfBounds_25 ?_
        have hq := o_bind hR
        clear hR
        obtain ⟨h19, hh20, hR⟩ := hq
        obtain ⟨n21, f22, he23, hi24, e25⟩ := pl_e hh20
        refine X_last C rfl he23 hi24 dTi_rowOfBounds_26 ?_
        rw [← e25]
        refine X_iinc (v := x2 + 1) (lv' := [(2, .int (x2 + 1)), (0, .ref (a17)), (1, .ref (a5))]) C dTi_rowOfBounds_27 rfl rfl (by decide) rfl ?_
        refine X_goto (tgt := 7) C dTi_rowOfBounds_30 (by decide) ?_
        refine X_sub (lv' := [(0, va_rf ((some (a17)))), (1, va_rf ((some (a5)))), (2, .int (x2 + 1))]) [1, 2, 0] rfl ?_
        exact (ih (some (a17)) (some (a5)) (x2 + 1) _ _ _ _ _ _ (by omega) (by omega) (by omega)).2 hR
theorem Ti_rowOfBounds_c {l : Launch} {G : xG} {B sz : Nat} {n : Nat} {y0 : Option Nat} {h : xH} {R : Option Nat × xH × Nat × Nat} (hR : Ti_rowOfBounds_f n 0 y0 none 0 h sz = some R) : xCon l yTi_rowOfBounds cTi_rowOfBounds 3 (some (.object "TimedYard$LongRow")) 4 82 R.2.2.1 R.2.2.2 G B [va_rf (y0)] h sz (kP (some (va_rf R.1)) R.2.1 (sz + R.2.2.1)) := xCon.of (by decide) (by simp [lg_sl, rf_cat, cat_i, cat_r, cat_l]) (fun F e C hr hnm => X_sub (lv' := [(0, va_rf (y0))]) [0] (by simp [lv_args, lv_pick, rf_cat, cat_i, cat_r, cat_l]) ((Ti_rowOfBounds_x C hr n y0 none 0 h sz 0 0 R _ (Nat.le_of_eq (Nat.zero_add _)) (Nat.le_of_eq (Nat.zero_add _)) rfl).1 hR))
def Ti_heldOf_f (n : Nat) (o : Nat) (x1 : Int32) (x2 : Int32) (x3 : Int32) (h : xH) (z : Nat) : Option (Option Nat × xH × Nat × Nat) := (if x1 = 1 then obd (gq h (o) 4 0) (fun w2 => obd w2 (fun a7 => (if kc h (a7) 3 = true then obd (Ya_wayAt_f n (a7) (x2) (x3) h) (fun r8 => bnd (r8.1) (fun w9 => oel (w9) (some (none, r8.2, 0, 0)) (fun a11 => (if kc r8.2 (a11) 7 = true then obd (Wa_asItIs_f n (a11) r8.2 (z)) (fun r13 => oadd r13.2.2.1 r13.2.2.2 (bnd (r13.1) (fun w14 => some ((w14), r13.2.1, 0, 0)))) else none)))) else none))) else (if x1 = 2 then obd (gq h (o) 4 0) (fun w25 => obd w25 (fun a30 => (if kc h (a30) 3 = true then obd (Ya_placeAt_f n (a30) (x2) (x3) h) (fun r31 => bnd (r31.1) (fun w32 => oel (w32) (some (none, r31.2, 0, 0)) (fun a34 => (if kc r31.2 (a34) 6 = true then obd (Pl_asItIs_f n (a34) r31.2 (z)) (fun r36 => oadd r36.2.2.1 r36.2.2.2 (bnd (r36.1) (fun w37 => some ((w37), r36.2.1, 0, 0)))) else none)))) else none))) else (if x1 = 3 then obd (gq h (o) 4 0) (fun w48 => obd w48 (fun a53 => obd (gi h (a53) 3 7) (fun u54 => (if u54 = 0 then some (none, h, 0, 0) else (if kc h (o) 4 = true then obd (Ti_rowOfPlaces_f n 0 (o) 0 none 0 h (z)) (fun r60 => oadd r60.2.2.1 r60.2.2.2 (bnd (r60.1) (fun w61 => some ((w61), r60.2.1, 0, 0)))) else none))))) else obd (gq h (o) 4 0) (fun w68 => obd w68 (fun a73 => (if kc h (a73) 3 = true then obd (Ya_stateAt_f n (a73) (x3) h) (fun r74 => bnd (r74.1) (fun w75 => oel (w75) (some (none, r74.2, 0, 0)) (fun a77 => obd (gq r74.2 (a77) 2 3) (fun w79 => obd (Ti_rowOfBounds_f n 0 (w79) none 0 r74.2 (z)) (fun r84 => oadd r84.2.2.1 r84.2.2.2 (bnd (r84.1) (fun w85 => some ((w85), r84.2.1, 0, 0)))))))) else none))))))
set_option maxRecDepth 100000 in
set_option maxHeartbeats 8000000 in
theorem Ti_heldOf_x {F : xF} {G : xG} {B mc ms : Nat} {o : Nat} (C : xC F G B cTi_heldOf RTi 7 5 106 mc ms) (hr : (xFM F).sig.returnType = (some (.object "TimedYard$Held"))) {n : Nat} {x1 : Int32} {x2 : Int32} {x3 : Int32} {h : xH} {z cs ss : Nat} {R : Option Nat × xH × Nat × Nat} {Zf : Nat} (hm : cs + R.2.2.1 ≤ mc) (hs : ss + R.2.2.2 ≤ ms) (hz : Zf = z + R.2.2.1) (hR : Ti_heldOf_f n o x1 x2 x3 h z = some R) : X F G B (xZ F G B (kP (some (va_rf R.1)) R.2.1 Zf) mc ms) 7 h z cs ss 0 [(0, .ref (o)), (1, .int (x1)), (2, .int (x2)), (3, .int (x3))] [] := by
  unfold Ti_heldOf_f at hR
  refine X_iload_n C dTi_heldOf_0 rfl ?_
  by_cases c1 : x1 = 1
  · rw [if_pos c1] at hR
    refine X_tableIn (off := 27) (tgt := 28) C dTi_heldOf_1 (by rw [c1]; decide) (by rw [c1]; decide) (by rw [c1]; rfl) (by decide) ?_
    refine X_aload_n C dTi_heldOf_28 rfl ?_
    have hq := o_bind hR
    clear hR
    obtain ⟨w2, hx6, hR⟩ := hq
    obtain ⟨fs3, he4, hv5⟩ := gq_e hx6
    refine X_get (k := 0) C oTi fwTi_10 he4 hv5 dTi_heldOf_29 ?_
    refine X_iload_n C dTi_heldOf_32 rfl ?_
    refine X_iload_n C dTi_heldOf_33 rfl ?_
    have hq := o_bind hR
    clear hR
    obtain ⟨a7, rfl, hR⟩ := hq
    have hq := o_if hR
    clear hR
    obtain ⟨k21, hR⟩ := hq
    obtain ⟨fs22, he23⟩ := kc_e k21
    have hq := o_bind hR
    clear hR
    obtain ⟨r8, hr8, hR⟩ := hq
    refine X_callVk (As := [.int (x2), .int (x3)]) (rest := []) C (Ya_wayAt_c hr8) wTi_100 ⟨by decide, by decide⟩ ⟨by omega, by omega⟩ he23 oYa.2.1 rfl rfl (Nat.le_of_ble_eq_true rfl) dTi_heldOf_34 ?_
    show X F G B _ 7 (r8.2) _ _ _ _ _ [va_rf (r8.1)]
    have hq := b_bnd hR
    clear hR
    obtain ⟨w9, e10, hR⟩ := hq
    rw [← e10]
    refine X_astoreq (lv' := [(4, va_rf (w9)), (0, .ref (o)), (1, .int (x1)), (2, .int (x2)), (3, .int (x3))]) C dTi_heldOf_37 (by decide) rfl ?_
    refine X_aloadq C dTi_heldOf_39 rfl ?_
    refine X_ifnonnullq (tgt := 48) C dTi_heldOf_41 (by decide) (fun a11 e12 => ?_) (fun e12 => ?_)
    · subst e12
      rw [oel_s] at hR
      refine X_aload C dTi_heldOf_48 rfl ?_
      have hq := o_if hR
      clear hR
      obtain ⟨k18, hR⟩ := hq
      obtain ⟨fs19, he20⟩ := kc_e k18
      have hq := o_bind hR
      clear hR
      obtain ⟨r13, hr13, hR⟩ := hq
      have hq := o_add hR
      clear hR
      obtain ⟨R17, e16, hR⟩ := hq
      subst e16
      dsimp only at hm hs hz ⊢
      refine X_callVa (As := []) (rest := []) C (Wa_asItIs_c hr13) wTi_275 ⟨by decide, by decide⟩ ⟨by omega, by omega⟩ he20 oWa.2.1 rfl rfl (Nat.le_of_ble_eq_true rfl) dTi_heldOf_50 ?_
      show X F G B _ 7 (r13.2.1) _ _ _ _ _ [va_rf (r13.1)]
      have hq := b_bnd hR
      clear hR
      obtain ⟨w14, e15, hR⟩ := hq
      rw [← e15]
      have hR := Option.some.inj hR
      subst hR
      dsimp only at hm hs hz ⊢
      exact X_aret C hr (Or.inl ⟨_, rfl⟩) (rf_or _) (by omega) (by omega) dTi_heldOf_53 ⟨rfl, rfl, by omega⟩
    · subst e12
      rw [oel_n] at hR
      refine X_null C dTi_heldOf_44 ?_
      refine X_goto (tgt := 53) C dTi_heldOf_45 (by decide) ?_
      have hR := Option.some.inj hR
      subst hR
      dsimp only at hm hs hz ⊢
      exact X_aret C hr (Or.inl ⟨_, rfl⟩) (Or.inl rfl) (by omega) (by omega) dTi_heldOf_53 ⟨rfl, rfl, by omega⟩
  · rw [if_neg c1] at hR
    by_cases c24 : x1 = 2
    · rw [if_pos c24] at hR
      refine X_tableIn (off := 53) (tgt := 54) C dTi_heldOf_1 (by rw [c24]; decide) (by rw [c24]; decide) (by rw [c24]; rfl) (by decide) ?_
      refine X_aload_n C dTi_heldOf_54 rfl ?_
      have hq := o_bind hR
      clear hR
      obtain ⟨w25, hx29, hR⟩ := hq
      obtain ⟨fs26, he27, hv28⟩ := gq_e hx29
      refine X_get (k := 0) C oTi fwTi_10 he27 hv28 dTi_heldOf_55 ?_
      refine X_iload_n C dTi_heldOf_58 rfl ?_
      refine X_iload_n C dTi_heldOf_59 rfl ?_
      have hq := o_bind hR
      clear hR
      obtain ⟨a30, rfl, hR⟩ := hq
      have hq := o_if hR
      clear hR
      obtain ⟨k44, hR⟩ := hq
      obtain ⟨fs45, he46⟩ := kc_e k44
      have hq := o_bind hR
      clear hR
      obtain ⟨r31, hr31, hR⟩ := hq
      refine X_callVk (As := [.int (x2), .int (x3)]) (rest := []) C (Ya_placeAt_c hr31) wTi_63 ⟨by decide, by decide⟩ ⟨by omega, by omega⟩ he46 oYa.2.1 rfl rfl (Nat.le_of_ble_eq_true rfl) dTi_heldOf_60 ?_
      show X F G B _ 7 (r31.2) _ _ _ _ _ [va_rf (r31.1)]
      have hq := b_bnd hR
      clear hR
      obtain ⟨w32, e33, hR⟩ := hq
      rw [← e33]
      refine X_astoreq (lv' := [(5, va_rf (w32)), (0, .ref (o)), (1, .int (x1)), (2, .int (x2)), (3, .int (x3))]) C dTi_heldOf_63 (by decide) rfl ?_
      refine X_aloadq C dTi_heldOf_65 rfl ?_
      refine X_ifnonnullq (tgt := 74) C dTi_heldOf_67 (by decide) (fun a34 e35 => ?_) (fun e35 => ?_)
      · subst e35
        rw [oel_s] at hR
        refine X_aload C dTi_heldOf_74 rfl ?_
        have hq := o_if hR
        clear hR
        obtain ⟨k41, hR⟩ := hq
        obtain ⟨fs42, he43⟩ := kc_e k41
        have hq := o_bind hR
        clear hR
        obtain ⟨r36, hr36, hR⟩ := hq
        have hq := o_add hR
        clear hR
        obtain ⟨R40, e39, hR⟩ := hq
        subst e39
        dsimp only at hm hs hz ⊢
        refine X_callVa (As := []) (rest := []) C (Pl_asItIs_c hr36) wTi_279 ⟨by decide, by decide⟩ ⟨by omega, by omega⟩ he43 oPl.2.1 rfl rfl (Nat.le_of_ble_eq_true rfl) dTi_heldOf_76 ?_
        show X F G B _ 7 (r36.2.1) _ _ _ _ _ [va_rf (r36.1)]
        have hq := b_bnd hR
        clear hR
        obtain ⟨w37, e38, hR⟩ := hq
        rw [← e38]
        have hR := Option.some.inj hR
        subst hR
        dsimp only at hm hs hz ⊢
        exact X_aret C hr (Or.inl ⟨_, rfl⟩) (rf_or _) (by omega) (by omega) dTi_heldOf_79 ⟨rfl, rfl, by omega⟩
      · subst e35
        rw [oel_n] at hR
        refine X_null C dTi_heldOf_70 ?_
        refine X_goto (tgt := 79) C dTi_heldOf_71 (by decide) ?_
        have hR := Option.some.inj hR
        subst hR
        dsimp only at hm hs hz ⊢
        exact X_aret C hr (Or.inl ⟨_, rfl⟩) (Or.inl rfl) (by omega) (by omega) dTi_heldOf_79 ⟨rfl, rfl, by omega⟩
    · rw [if_neg c24] at hR
      by_cases c47 : x1 = 3
      · rw [if_pos c47] at hR
        refine X_tableIn (off := 79) (tgt := 80) C dTi_heldOf_1 (by rw [c47]; decide) (by rw [c47]; decide) (by rw [c47]; rfl) (by decide) ?_
        refine X_aload_n C dTi_heldOf_80 rfl ?_
        have hq := o_bind hR
        clear hR
        obtain ⟨w48, hx52, hR⟩ := hq
        obtain ⟨fs49, he50, hv51⟩ := gq_e hx52
        refine X_get (k := 0) C oTi fwTi_10 he50 hv51 dTi_heldOf_81 ?_
        have hq := o_bind hR
        clear hR
        obtain ⟨a53, rfl, hR⟩ := hq
        have hq := o_bind hR
        clear hR
        obtain ⟨u54, hx58, hR⟩ := hq
        obtain ⟨fs55, he56, hv57⟩ := gi_e hx58
        refine X_get (k := 7) C oYa fwTi_282 he56 hv57 dTi_heldOf_84 ?_
        refine X_if_eq (tgt := 97) C dTi_heldOf_87 (by decide) (fun c59 => ?_) (fun c59 => ?_)
        · rw [if_pos c59] at hR
          refine X_null C dTi_heldOf_97 ?_
          have hR := Option.some.inj hR
          subst hR
          dsimp only at hm hs hz ⊢
          exact X_aret C hr (Or.inl ⟨_, rfl⟩) (Or.inl rfl) (by omega) (by omega) dTi_heldOf_98 ⟨rfl, rfl, by omega⟩
        · rw [if_neg c59] at hR
          refine X_aload_n C dTi_heldOf_90 rfl ?_
          have hq := o_if hR
          clear hR
          obtain ⟨k65, hR⟩ := hq
          obtain ⟨fs66, he67⟩ := kc_e k65
          have hq := o_bind hR
          clear hR
          obtain ⟨r60, hr60, hR⟩ := hq
          have hq := o_add hR
          clear hR
          obtain ⟨R64, e63, hR⟩ := hq
          subst e63
          dsimp only at hm hs hz ⊢
          refine X_callVa (As := []) (rest := []) C (Ti_rowOfPlaces_c hr60) wTi_285 ⟨by decide, by decide⟩ ⟨by omega, by omega⟩ he67 oTi.2.1 rfl rfl (Nat.le_of_ble_eq_true rfl) dTi_heldOf_91 ?_
          show X F G B _ 7 (r60.2.1) _ _ _ _ _ [va_rf (r60.1)]
          have hq := b_bnd hR
          clear hR
          obtain ⟨w61, e62, hR⟩ := hq
          rw [← e62]
          refine X_goto (tgt := 98) C dTi_heldOf_94 (by decide) ?_
          have hR := Option.some.inj hR
          subst hR
          dsimp only at hm hs hz ⊢
          exact X_aret C hr (Or.inl ⟨_, rfl⟩) (rf_or _) (by omega) (by omega) dTi_heldOf_98 ⟨rfl, rfl, by omega⟩
      · rw [if_neg c47] at hR
        have ec1 := lv_neT (a := 1) c1 (by decide)
        have ec24 := lv_neT (a := 2) c24 (by decide)
        have ec47 := lv_neT (a := 3) c47 (by decide)
        refine X_tableOut (tgt := 99) C dTi_heldOf_1 (by omega) (by decide) ?_
        refine X_aload_n C dTi_heldOf_99 rfl ?_
        have hq := o_bind hR
        clear hR
        obtain ⟨w68, hx72, hR⟩ := hq
        obtain ⟨fs69, he70, hv71⟩ := gq_e hx72
        refine X_get (k := 0) C oTi fwTi_10 he70 hv71 dTi_heldOf_100 ?_
        refine X_iload_n C dTi_heldOf_103 rfl ?_
        have hq := o_bind hR
        clear hR
        obtain ⟨a73, rfl, hR⟩ := hq
        have hq := o_if hR
        clear hR
        obtain ⟨k89, hR⟩ := hq
        obtain ⟨fs90, he91⟩ := kc_e k89
        have hq := o_bind hR
        clear hR
        obtain ⟨r74, hr74, hR⟩ := hq
        refine X_callVk (As := [.int (x3)]) (rest := []) C (Ya_stateAt_c hr74) wTi_121 ⟨by decide, by decide⟩ ⟨by omega, by omega⟩ he91 oYa.2.1 rfl rfl (Nat.le_of_ble_eq_true rfl) dTi_heldOf_104 ?_
        show X F G B _ 7 (r74.2) _ _ _ _ _ [va_rf (r74.1)]
        have hq := b_bnd hR
        clear hR
        obtain ⟨w75, e76, hR⟩ := hq
        rw [← e76]
        refine X_astoreq (lv' := [(6, va_rf (w75)), (0, .ref (o)), (1, .int (x1)), (2, .int (x2)), (3, .int (x3))]) C dTi_heldOf_107 (by decide) rfl ?_
        refine X_aloadq C dTi_heldOf_109 rfl ?_
        refine X_ifnonnullq (tgt := 118) C dTi_heldOf_111 (by decide) (fun a77 e78 => ?_) (fun e78 => ?_)
        · subst e78
          rw [oel_s] at hR
          refine X_aload C dTi_heldOf_118 rfl ?_
          have hq := o_bind hR
          clear hR
          obtain ⟨w79, hx83, hR⟩ := hq
          obtain ⟨fs80, he81, hv82⟩ := gq_e hx83
          refine X_get (k := 3) C oSt fwTi_158 he81 hv82 dTi_heldOf_120 ?_
          have hq := o_bind hR
          clear hR
          obtain ⟨r84, hr84, hR⟩ := hq
          have hq := o_add hR
          clear hR
          obtain ⟨R88, e87, hR⟩ := hq
          subst e87
          dsimp only at hm hs hz ⊢
          refine X_callSa (As := [va_rf (w79)]) (rest := []) C (Ti_rowOfBounds_c hr84) wTi_289 ⟨by decide, by decide⟩ ⟨by omega, by omega⟩ rfl rfl (Nat.le_of_ble_eq_true rfl) dTi_heldOf_123 ?_
          show X F G B _ 7 (r84.2.1) _ _ _ _ _ [va_rf (r84.1)]
          have hq := b_bnd hR
          clear hR
          obtain ⟨w85, e86, hR⟩ := hq
          rw [← e86]
          have hR := Option.some.inj hR
          subst hR
          dsimp only at hm hs hz ⊢
          exact X_aret C hr (Or.inl ⟨_, rfl⟩) (rf_or _) (by omega) (by omega) dTi_heldOf_126 ⟨rfl, rfl, by omega⟩
        · subst e78
          rw [oel_n] at hR
          refine X_null C dTi_heldOf_114 ?_
          refine X_goto (tgt := 126) C dTi_heldOf_115 (by decide) ?_
          have hR := Option.some.inj hR
          subst hR
          dsimp only at hm hs hz ⊢
          exact X_aret C hr (Or.inl ⟨_, rfl⟩) (Or.inl rfl) (by omega) (by omega) dTi_heldOf_126 ⟨rfl, rfl, by omega⟩
theorem Ti_heldOf_c {l : Launch} {G : xG} {B sz : Nat} {o : Nat} {n : Nat} {x1 : Int32} {x2 : Int32} {x3 : Int32} {h : xH} {R : Option Nat × xH × Nat × Nat} (hR : Ti_heldOf_f n o x1 x2 x3 h sz = some R) : xCon l yTi_heldOf cTi_heldOf 7 (some (.object "TimedYard$Held")) 5 106 R.2.2.1 R.2.2.2 G B [.ref (o), .int (x1), .int (x2), .int (x3)] h sz (kP (some (va_rf R.1)) R.2.1 (sz + R.2.2.1)) := xCon.of (by decide) (by exact Nat.le_of_ble_eq_true rfl) (fun F e C hr hnm => X_sub (lv' := [(0, .ref (o)), (1, .int (x1)), (2, .int (x2)), (3, .int (x3))]) [0, 1, 2, 3] rfl (Ti_heldOf_x C hr (Nat.le_of_eq (Nat.zero_add _)) (Nat.le_of_eq (Nat.zero_add _)) rfl hR))
def Ti_keep_f (n : Nat) (o : Nat) (x1 : Int32) (x2 : Int32) (x3 : Int32) (x4 : Int32) (h : xH) (z : Nat) : Option (Int32 × xH × Nat × Nat) := obd (Ti_isShelf_f n (x1) h) (fun r1 => (if r1.1 = 0 then some (((-1) : Int32), r1.2, 0, 0) else obd (Ti_isBetween_f n (x2) ((0 : Int32)) ((4 : Int32)) r1.2) (fun r3 => (if r3.1 = 0 then some (((-1) : Int32), r3.2, 0, 0) else (if x2 = 0 then obd (gq r3.2 (o) 4 3) (fun w62 => obd w62 (fun a67 => obd (pn r3.2 (a67) 8 (x1)) (fun h68 => some ((0 : Int32), h68, 0, 0)))) else (if kc r3.2 (o) 4 = true then obd (Ti_heldOf_f n (o) (x2) (x3) (x4) r3.2 (z)) (fun r6 => oadd r6.2.2.1 r6.2.2.2 (bnd (r6.1) (fun w7 => oel (w7) (some (((-1) : Int32), r6.2.1, 0, 0)) (fun a9 => obd (gq r6.2.1 (o) 4 3) (fun w11 => obd w11 (fun a16 => (if kc r6.2.1 (a9) 6 = true then obd (pq r6.2.1 (a16) 8 (x1) (a9) 6) (fun h18 => some ((0 : Int32), h18, 0, 0)) else (if kc r6.2.1 (a9) 7 = true then obd (pq r6.2.1 (a16) 8 (x1) (a9) 7) (fun h28 => some ((0 : Int32), h28, 0, 0)) else (if kc r6.2.1 (a9) 8 = true then obd (pq r6.2.1 (a16) 8 (x1) (a9) 8) (fun h38 => some ((0 : Int32), h38, 0, 0)) else (if kc r6.2.1 (a9) 9 = true then obd (pq r6.2.1 (a16) 8 (x1) (a9) 9) (fun h48 => some ((0 : Int32), h48, 0, 0)) else none)))))))))) else none))))))
set_option maxRecDepth 100000 in
set_option maxHeartbeats 8000000 in
theorem Ti_keep_x {F : xF} {G : xG} {B mc ms : Nat} {o : Nat} (C : xC F G B cTi_keep RTi 6 6 132 mc ms) (hr : (xFM F).sig.returnType = (some .int)) {n : Nat} {x1 : Int32} {x2 : Int32} {x3 : Int32} {x4 : Int32} {h : xH} {z cs ss : Nat} {R : Int32 × xH × Nat × Nat} {Zf : Nat} (hm : cs + R.2.2.1 ≤ mc) (hs : ss + R.2.2.2 ≤ ms) (hz : Zf = z + R.2.2.1) (hR : Ti_keep_f n o x1 x2 x3 x4 h z = some R) : X F G B (xZ F G B (kP (some (.int R.1)) R.2.1 Zf) mc ms) 6 h z cs ss 0 [(0, .ref (o)), (1, .int (x1)), (2, .int (x2)), (3, .int (x3)), (4, .int (x4))] [] := by
  unfold Ti_keep_f at hR
  refine X_iload_n C dTi_keep_0 rfl ?_
  have hq := o_bind hR
  clear hR
  obtain ⟨r1, hr1, hR⟩ := hq
  refine X_callSk (As := [.int (x1)]) (rest := []) C (Ti_isShelf_c hr1) wTi_231 ⟨by decide, by decide⟩ ⟨by omega, by omega⟩ rfl rfl (Nat.le_of_ble_eq_true rfl) dTi_keep_1 ?_
  show X F G B _ 6 (r1.2) _ _ _ _ _ [.int (r1.1)]
  refine X_if_eq (tgt := 16) C dTi_keep_4 (by decide) (fun c2 => ?_) (fun c2 => ?_)
  · rw [if_pos c2] at hR
    refine X_iconst (v := (-1)) C dTi_keep_16 rfl ?_
    have hR := Option.some.inj hR
    subst hR
    dsimp only at hm hs hz ⊢
    exact X_iret C hr (by omega) (by omega) dTi_keep_17 ⟨rfl, rfl, by omega⟩
  · rw [if_neg c2] at hR
    refine X_iload_n C dTi_keep_7 rfl ?_
    refine X_iconst (v := 0) C dTi_keep_8 rfl ?_
    refine X_iconst (v := 4) C dTi_keep_9 rfl ?_
    have hq := o_bind hR
    clear hR
    obtain ⟨r3, hr3, hR⟩ := hq
    refine X_callSk (As := [.int (x2), .int ((0 : Int32)), .int ((4 : Int32))]) (rest := []) C (Ti_isBetween_c hr3) wTi_71 ⟨by decide, by decide⟩ ⟨by omega, by omega⟩ rfl rfl (Nat.le_of_ble_eq_true rfl) dTi_keep_10 ?_
    show X F G B _ 6 (r3.2) _ _ _ _ _ [.int (r3.1)]
    refine X_if_ne (tgt := 18) C dTi_keep_13 (by decide) (fun c4 => ?_) (fun c4 => ?_)
    · rw [if_neg c4] at hR
      refine X_iload_n C dTi_keep_18 rfl ?_
      refine X_if_ne (tgt := 31) C dTi_keep_19 (by decide) (fun c5 => ?_) (fun c5 => ?_)
      · rw [if_neg c5] at hR
        refine X_aload_n C dTi_keep_31 rfl ?_
        refine X_iload_n C dTi_keep_32 rfl ?_
        refine X_iload_n C dTi_keep_33 rfl ?_
        refine X_iload C dTi_keep_34 rfl ?_
        have hq := o_if hR
        clear hR
        obtain ⟨k59, hR⟩ := hq
        obtain ⟨fs60, he61⟩ := kc_e k59
        have hq := o_bind hR
        clear hR
        obtain ⟨r6, hr6, hR⟩ := hq
        have hq := o_add hR
        clear hR
        obtain ⟨R58, e57, hR⟩ := hq
        subst e57
        dsimp only at hm hs hz ⊢
        refine X_callVa (As := [.int (x2), .int (x3), .int (x4)]) (rest := []) C (Ti_heldOf_c hr6) wTi_234 ⟨by decide, by decide⟩ ⟨by omega, by omega⟩ he61 oTi.2.1 rfl rfl (Nat.le_of_ble_eq_true rfl) dTi_keep_36 ?_
        show X F G B _ 6 (r6.2.1) _ _ _ _ _ [va_rf (r6.1)]
        have hq := b_bnd hR
        clear hR
        obtain ⟨w7, e8, hR⟩ := hq
        rw [← e8]
        refine X_astoreq (lv' := [(5, va_rf (w7)), (0, .ref (o)), (1, .int (x1)), (2, .int (x2)), (3, .int (x3)), (4, .int (x4))]) C dTi_keep_39 (by decide) rfl ?_
        refine X_aloadq C dTi_keep_41 rfl ?_
        refine X_ifnonnullq (tgt := 48) C dTi_keep_43 (by decide) (fun a9 e10 => ?_) (fun e10 => ?_)
        · subst e10
          rw [oel_s] at hR
          refine X_aload_n C dTi_keep_48 rfl ?_
          have hq := o_bind hR
          clear hR
          obtain ⟨w11, hx15, hR⟩ := hq
          obtain ⟨fs12, he13, hv14⟩ := gq_e hx15
          refine X_get (k := 3) C oTi fwTi_34 he13 hv14 dTi_keep_49 ?_
          refine X_iload_n C dTi_keep_52 rfl ?_
          refine X_aload C dTi_keep_53 rfl ?_
          have hq := o_bind hR
          clear hR
          obtain ⟨a16, rfl, hR⟩ := hq
          by_cases k17 : kc r6.2.1 (a9) 6 = true
          · rw [if_pos k17] at hR
            have hq := o_bind hR
            clear hR
            obtain ⟨h18, hh19, hR⟩ := hq
            obtain ⟨n20, f21, vs22, he23, hv24, hi25, e26⟩ := pq_e hh19
            refine X_aastY C rfl oPl.2.1 (by decide) he23 hv24 hi25 dTi_keep_55 ?_
            rw [← e26]
            refine X_iconst (v := 0) C dTi_keep_56 rfl ?_
            have hR := Option.some.inj hR
            subst hR
            dsimp only at hm hs hz ⊢
            exact X_iret C hr (by omega) (by omega) dTi_keep_57 ⟨rfl, rfl, by omega⟩
          · rw [if_neg k17] at hR
            by_cases k27 : kc r6.2.1 (a9) 7 = true
            · rw [if_pos k27] at hR
              have hq := o_bind hR
              clear hR
              obtain ⟨h28, hh29, hR⟩ := hq
              obtain ⟨n30, f31, vs32, he33, hv34, hi35, e36⟩ := pq_e hh29
              refine X_aastY C rfl oWa.2.1 (by decide) he33 hv34 hi35 dTi_keep_55 ?_
              rw [← e36]
              refine X_iconst (v := 0) C dTi_keep_56 rfl ?_
              have hR := Option.some.inj hR
              subst hR
              dsimp only at hm hs hz ⊢
              exact X_iret C hr (by omega) (by omega) dTi_keep_57 ⟨rfl, rfl, by omega⟩
            · rw [if_neg k27] at hR
              by_cases k37 : kc r6.2.1 (a9) 8 = true
              · rw [if_pos k37] at hR
                have hq := o_bind hR
                clear hR
                obtain ⟨h38, hh39, hR⟩ := hq
                obtain ⟨n40, f41, vs42, he43, hv44, hi45, e46⟩ := pq_e hh39
                refine X_aastY C rfl oSr.2.1 (by decide) he43 hv44 hi45 dTi_keep_55 ?_
                rw [← e46]
                refine X_iconst (v := 0) C dTi_keep_56 rfl ?_
                have hR := Option.some.inj hR
                subst hR
                dsimp only at hm hs hz ⊢
                exact X_iret C hr (by omega) (by omega) dTi_keep_57 ⟨rfl, rfl, by omega⟩
              · rw [if_neg k37] at hR
                by_cases k47 : kc r6.2.1 (a9) 9 = true
                · rw [if_pos k47] at hR
                  have hq := o_bind hR
                  clear hR
                  obtain ⟨h48, hh49, hR⟩ := hq
                  obtain ⟨n50, f51, vs52, he53, hv54, hi55, e56⟩ := pq_e hh49
                  refine X_aastY C rfl oLr.2.1 (by decide) he53 hv54 hi55 dTi_keep_55 ?_
                  rw [← e56]
                  refine X_iconst (v := 0) C dTi_keep_56 rfl ?_
                  have hR := Option.some.inj hR
                  subst hR
                  dsimp only at hm hs hz ⊢
                  exact X_iret C hr (by omega) (by omega) dTi_keep_57 ⟨rfl, rfl, by omega⟩
                · rw [if_neg k47] at hR
                  cases hR
        · subst e10
          rw [oel_n] at hR
          refine X_iconst (v := (-1)) C dTi_keep_46 rfl ?_
          have hR := Option.some.inj hR
          subst hR
          dsimp only at hm hs hz ⊢
          exact X_iret C hr (by omega) (by omega) dTi_keep_47 ⟨rfl, rfl, by omega⟩
      · rw [if_pos c5] at hR
        refine X_aload_n C dTi_keep_22 rfl ?_
        have hq := o_bind hR
        clear hR
        obtain ⟨w62, hx66, hR⟩ := hq
        obtain ⟨fs63, he64, hv65⟩ := gq_e hx66
        refine X_get (k := 3) C oTi fwTi_34 he64 hv65 dTi_keep_23 ?_
        refine X_iload_n C dTi_keep_26 rfl ?_
        refine X_null C dTi_keep_27 ?_
        have hq := o_bind hR
        clear hR
        obtain ⟨a67, rfl, hR⟩ := hq
        have hq := o_bind hR
        clear hR
        obtain ⟨h68, hh69, hR⟩ := hq
        obtain ⟨n70, f71, he72, hi73, e74⟩ := pn_e hh69
        refine X_aastN C rfl he72 hi73 dTi_keep_28 ?_
        rw [← e74]
        refine X_iconst (v := 0) C dTi_keep_29 rfl ?_
        have hR := Option.some.inj hR
        subst hR
        dsimp only at hm hs hz ⊢
        exact X_iret C hr (by omega) (by omega) dTi_keep_30 ⟨rfl, rfl, by omega⟩
    · rw [if_pos c4] at hR
      refine X_iconst (v := (-1)) C dTi_keep_16 rfl ?_
      have hR := Option.some.inj hR
      subst hR
      dsimp only at hm hs hz ⊢
      exact X_iret C hr (by omega) (by omega) dTi_keep_17 ⟨rfl, rfl, by omega⟩
theorem Ti_keep_c {l : Launch} {G : xG} {B sz : Nat} {o : Nat} {n : Nat} {x1 : Int32} {x2 : Int32} {x3 : Int32} {x4 : Int32} {h : xH} {R : Int32 × xH × Nat × Nat} (hR : Ti_keep_f n o x1 x2 x3 x4 h sz = some R) : xCon l yTi_keep cTi_keep 6 (some .int) 6 132 R.2.2.1 R.2.2.2 G B [.ref (o), .int (x1), .int (x2), .int (x3), .int (x4)] h sz (kP (some (.int R.1)) R.2.1 (sz + R.2.2.1)) := xCon.of (by decide) (by exact Nat.le_of_ble_eq_true rfl) (fun F e C hr hnm => X_sub (lv' := [(0, .ref (o)), (1, .int (x1)), (2, .int (x2)), (3, .int (x3)), (4, .int (x4))]) [0, 1, 2, 3, 4] rfl (Ti_keep_x C hr (Nat.le_of_eq (Nat.zero_add _)) (Nat.le_of_eq (Nat.zero_add _)) rfl hR))
def Ti_make_f (n : Nat) (o : Nat) (x1 : Int32) (x2 : Int32) (x3 : Int32) (h : xH) (z : Nat) : Option (Int32 × xH × Nat × Nat) := obd (Ti_isShelf_f n (x1) h) (fun r1 => (if r1.1 = 0 then some (((-1) : Int32), r1.2, 0, 0) else obd (Ti_isBetween_f n (x2) ((3 : Int32)) ((4 : Int32)) r1.2) (fun r3 => (if r3.1 = 0 then some (((-1) : Int32), r3.2, 0, 0) else (if x3 ≤ (60 : Int32) then (if 0 ≤ x3 then (if x2 = (3 : Int32) then obd (gq r3.2 (o) 4 3) (fun w33 => oadd 1 1 (bnd (xup r3.2 (z) (.inr (8, [.null]))) (fun h38 => (if nb (x3) = true then oadd 1 (Int32.toNatClampNeg (x3)) (bnd (xup h38 (z + 1) (.inl (3, (Int32.toNatClampNeg (x3)), .inl (fun _ => 0)))) (fun h43 => obd (Sr_init_f n (z) (some (z + 1)) h43) (fun r47 => obd w33 (fun a48 => obd (pq r47.2 (a48) 8 (x1) (z) 8) (fun h49 => some ((0 : Int32), h49, 0, 0)))))) else none)))) else obd (gq r3.2 (o) 4 3) (fun w8 => oadd 1 1 (bnd (xup r3.2 (z) (.inr (9, [.null]))) (fun h13 => (if nb (x3) = true then oadd 1 (Int32.toNatClampNeg (x3)) (bnd (xup h13 (z + 1) (.inl (1, (Int32.toNatClampNeg (x3)), .inr (.inl (fun _ => 0))))) (fun h18 => obd (Lr_init_f n (z) (some (z + 1)) h18) (fun r22 => obd w8 (fun a23 => obd (pq r22.2 (a23) 8 (x1) (z) 9) (fun h24 => some ((0 : Int32), h24, 0, 0)))))) else none))))) else some (((-14) : Int32), r3.2, 0, 0)) else some (((-1) : Int32), r3.2, 0, 0))))))
set_option maxRecDepth 100000 in
set_option maxHeartbeats 8000000 in
theorem Ti_make_x {F : xF} {G : xG} {B mc ms : Nat} {o : Nat} (C : xC F G B cTi_make RTi 4 4 82 mc ms) (hr : (xFM F).sig.returnType = (some .int)) {n : Nat} {x1 : Int32} {x2 : Int32} {x3 : Int32} {h : xH} {z cs ss : Nat} {R : Int32 × xH × Nat × Nat} {Zf : Nat} (hm : cs + R.2.2.1 ≤ mc) (hs : ss + R.2.2.2 ≤ ms) (hz : Zf = z + R.2.2.1) (hR : Ti_make_f n o x1 x2 x3 h z = some R) : X F G B (xZ F G B (kP (some (.int R.1)) R.2.1 Zf) mc ms) 4 h z cs ss 0 [(0, .ref (o)), (1, .int (x1)), (2, .int (x2)), (3, .int (x3))] [] := by
  unfold Ti_make_f at hR
  refine X_iload_n C dTi_make_0 rfl ?_
  have hq := o_bind hR
  clear hR
  obtain ⟨r1, hr1, hR⟩ := hq
  refine X_callSk (As := [.int (x1)]) (rest := []) C (Ti_isShelf_c hr1) wTi_231 ⟨by decide, by decide⟩ ⟨by omega, by omega⟩ rfl rfl (Nat.le_of_ble_eq_true rfl) dTi_make_1 ?_
  show X F G B _ 4 (r1.2) _ _ _ _ _ [.int (r1.1)]
  refine X_if_eq (tgt := 22) C dTi_make_4 (by decide) (fun c2 => ?_) (fun c2 => ?_)
  · rw [if_pos c2] at hR
    refine X_iconst (v := (-1)) C dTi_make_22 rfl ?_
    have hR := Option.some.inj hR
    subst hR
    dsimp only at hm hs hz ⊢
    exact X_iret C hr (by omega) (by omega) dTi_make_23 ⟨rfl, rfl, by omega⟩
  · rw [if_neg c2] at hR
    refine X_iload_n C dTi_make_7 rfl ?_
    refine X_iconst (v := 3) C dTi_make_8 rfl ?_
    refine X_iconst (v := 4) C dTi_make_9 rfl ?_
    have hq := o_bind hR
    clear hR
    obtain ⟨r3, hr3, hR⟩ := hq
    refine X_callSk (As := [.int (x2), .int ((3 : Int32)), .int ((4 : Int32))]) (rest := []) C (Ti_isBetween_c hr3) wTi_71 ⟨by decide, by decide⟩ ⟨by omega, by omega⟩ rfl rfl (Nat.le_of_ble_eq_true rfl) dTi_make_10 ?_
    show X F G B _ 4 (r3.2) _ _ _ _ _ [.int (r3.1)]
    refine X_if_eq (tgt := 22) C dTi_make_13 (by decide) (fun c4 => ?_) (fun c4 => ?_)
    · rw [if_pos c4] at hR
      refine X_iconst (v := (-1)) C dTi_make_22 rfl ?_
      have hR := Option.some.inj hR
      subst hR
      dsimp only at hm hs hz ⊢
      exact X_iret C hr (by omega) (by omega) dTi_make_23 ⟨rfl, rfl, by omega⟩
    · rw [if_neg c4] at hR
      refine X_iload_n C dTi_make_16 rfl ?_
      refine X_bipush (v := 60) C dTi_make_17 (by decide) ?_
      refine X_icmp_le (tgt := 24) C dTi_make_19 (by decide) (fun c5 => ?_) (fun c5 => ?_)
      · rw [if_pos c5] at hR
        refine X_iload_n C dTi_make_24 rfl ?_
        refine X_if_ge (tgt := 31) C dTi_make_25 (by decide) (fun c6 => ?_) (fun c6 => ?_)
        · rw [if_pos c6] at hR
          refine X_iload_n C dTi_make_31 rfl ?_
          refine X_iconst (v := 3) C dTi_make_32 rfl ?_
          refine X_icmp_ne (tgt := 55) C dTi_make_33 (by decide) (fun c7 => ?_) (fun c7 => ?_)
          · rw [if_neg c7] at hR
            refine X_aload_n C dTi_make_55 rfl ?_
            have hq := o_bind hR
            clear hR
            obtain ⟨w8, hx12, hR⟩ := hq
            obtain ⟨fs9, he10, hv11⟩ := gq_e hx12
            refine X_get (k := 3) C oTi fwTi_34 he10 hv11 dTi_make_56 ?_
            refine X_iload_n C dTi_make_59 rfl ?_
            have hq := o_add hR
            clear hR
            obtain ⟨R16, e15, hR⟩ := hq
            subst e15
            dsimp only at hm hs hz ⊢
            refine X_new (fs := [.null]) C oLr nwTi_243 (fun j hj => by rcases (show j = 0 by omega) with rfl <;> rfl) (by omega) (by omega) dTi_make_60 (fun _ _ => ?_)
            have hq := b_bnd hR
            clear hR
            obtain ⟨h13, e14, hR⟩ := hq
            rw [← e14]
            refine X_dup C dTi_make_63 rfl ?_
            refine X_iload_n C dTi_make_64 rfl ?_
            have hq := o_if hR
            clear hR
            obtain ⟨b17, hR⟩ := hq
            have hq := o_add hR
            clear hR
            obtain ⟨R21, e20, hR⟩ := hq
            subst e20
            dsimp only at hm hs hz ⊢
            refine X_newa (k := 1) (N := (Int32.toNatClampNeg (x3))) (ty := .long) (a0 := ((Int32.toNatClampNeg (x3)), .inr (.inl (fun _ => 0)))) C rfl na_long (fun _ => rfl) (nb_e b17).1 rfl (by have := (nb_e b17).2; simp only [componentBytes]; omega) (by omega) (by omega) dTi_make_65 (fun _ _ => ?_)
            have hq := b_bnd hR
            clear hR
            obtain ⟨h18, e19, hR⟩ := hq
            rw [← e19]
            have hq := o_bind hR
            clear hR
            obtain ⟨r22, hr22, hR⟩ := hq
            refine X_callIk (As := [.ref (z + 1)]) (rest := [.ref (z), .int (x1), va_rf (w8)]) C (Lr_init_c hr22) wTi_245 ⟨by decide, by decide⟩ ⟨by omega, by omega⟩ rfl rfl (by simp [rf_cat, cat_i, cat_r, cat_l]) dTi_make_67 ?_
            show X F G B _ 4 (r22.2) _ _ _ _ _ [.ref (z), .int (x1), va_rf (w8)]
            have hq := o_bind hR
            clear hR
            obtain ⟨a23, rfl, hR⟩ := hq
            have hq := o_bind hR
            clear hR
            obtain ⟨h24, hh25, hR⟩ := hq
            obtain ⟨n26, f27, vs28, he29, hv30, hi31, e32⟩ := pq_e hh25
            refine X_aastY C rfl oLr.2.1 (by decide) he29 hv30 hi31 dTi_make_70 ?_
            rw [← e32]
            refine X_iconst (v := 0) C dTi_make_71 rfl ?_
            have hR := Option.some.inj hR
            subst hR
            dsimp only at hm hs hz ⊢
            exact X_iret C hr (by omega) (by omega) dTi_make_72 ⟨rfl, rfl, by omega⟩
          · rw [if_pos c7] at hR
            refine X_aload_n C dTi_make_36 rfl ?_
            have hq := o_bind hR
            clear hR
            obtain ⟨w33, hx37, hR⟩ := hq
            obtain ⟨fs34, he35, hv36⟩ := gq_e hx37
            refine X_get (k := 3) C oTi fwTi_34 he35 hv36 dTi_make_37 ?_
            refine X_iload_n C dTi_make_40 rfl ?_
            have hq := o_add hR
            clear hR
            obtain ⟨R41, e40, hR⟩ := hq
            subst e40
            dsimp only at hm hs hz ⊢
            refine X_new (fs := [.null]) C oSr nwTi_238 (fun j hj => by rcases (show j = 0 by omega) with rfl <;> rfl) (by omega) (by omega) dTi_make_41 (fun _ _ => ?_)
            have hq := b_bnd hR
            clear hR
            obtain ⟨h38, e39, hR⟩ := hq
            rw [← e39]
            refine X_dup C dTi_make_44 rfl ?_
            refine X_iload_n C dTi_make_45 rfl ?_
            have hq := o_if hR
            clear hR
            obtain ⟨b42, hR⟩ := hq
            have hq := o_add hR
            clear hR
            obtain ⟨R46, e45, hR⟩ := hq
            subst e45
            dsimp only at hm hs hz ⊢
            refine X_newa (k := 3) (N := (Int32.toNatClampNeg (x3))) (ty := .short) (a0 := ((Int32.toNatClampNeg (x3)), .inl (fun _ => 0))) C rfl na_short (fun _ => rfl) (nb_e b42).1 rfl (by have := (nb_e b42).2; simp only [componentBytes]; omega) (by omega) (by omega) dTi_make_46 (fun _ _ => ?_)
            have hq := b_bnd hR
            clear hR
            obtain ⟨h43, e44, hR⟩ := hq
            rw [← e44]
            have hq := o_bind hR
            clear hR
            obtain ⟨r47, hr47, hR⟩ := hq
            refine X_callIk (As := [.ref (z + 1)]) (rest := [.ref (z), .int (x1), va_rf (w33)]) C (Sr_init_c hr47) wTi_240 ⟨by decide, by decide⟩ ⟨by omega, by omega⟩ rfl rfl (by simp [rf_cat, cat_i, cat_r, cat_l]) dTi_make_48 ?_
            show X F G B _ 4 (r47.2) _ _ _ _ _ [.ref (z), .int (x1), va_rf (w33)]
            have hq := o_bind hR
            clear hR
            obtain ⟨a48, rfl, hR⟩ := hq
            have hq := o_bind hR
            clear hR
            obtain ⟨h49, hh50, hR⟩ := hq
            obtain ⟨n51, f52, vs53, he54, hv55, hi56, e57⟩ := pq_e hh50
            refine X_aastY C rfl oSr.2.1 (by decide) he54 hv55 hi56 dTi_make_51 ?_
            rw [← e57]
            refine X_goto (tgt := 71) C dTi_make_52 (by decide) ?_
            refine X_iconst (v := 0) C dTi_make_71 rfl ?_
            have hR := Option.some.inj hR
            subst hR
            dsimp only at hm hs hz ⊢
            exact X_iret C hr (by omega) (by omega) dTi_make_72 ⟨rfl, rfl, by omega⟩
        · rw [if_neg c6] at hR
          refine X_bipush (v := (-14)) C dTi_make_28 (by decide) ?_
          have hR := Option.some.inj hR
          subst hR
          dsimp only at hm hs hz ⊢
          exact X_iret C hr (by omega) (by omega) dTi_make_30 ⟨rfl, rfl, by omega⟩
      · rw [if_neg c5] at hR
        refine X_iconst (v := (-1)) C dTi_make_22 rfl ?_
        have hR := Option.some.inj hR
        subst hR
        dsimp only at hm hs hz ⊢
        exact X_iret C hr (by omega) (by omega) dTi_make_23 ⟨rfl, rfl, by omega⟩
theorem Ti_make_c {l : Launch} {G : xG} {B sz : Nat} {o : Nat} {n : Nat} {x1 : Int32} {x2 : Int32} {x3 : Int32} {h : xH} {R : Int32 × xH × Nat × Nat} (hR : Ti_make_f n o x1 x2 x3 h sz = some R) : xCon l yTi_make cTi_make 4 (some .int) 4 82 R.2.2.1 R.2.2.2 G B [.ref (o), .int (x1), .int (x2), .int (x3)] h sz (kP (some (.int R.1)) R.2.1 (sz + R.2.2.1)) := xCon.of (by decide) (by exact Nat.le_of_ble_eq_true rfl) (fun F e C hr hnm => X_sub (lv' := [(0, .ref (o)), (1, .int (x1)), (2, .int (x2)), (3, .int (x3))]) [0, 1, 2, 3] rfl (Ti_make_x C hr (Nat.le_of_eq (Nat.zero_add _)) (Nat.le_of_eq (Nat.zero_add _)) rfl hR))
