def Ti_isPair_f (n : Nat) (x0 : Int32) (h : xH) : Option (Int32 × xH) := (if x0 < 0 then some ((0 : Int32), h) else (if (16 : Int32) ≤ x0 then some ((0 : Int32), h) else (if (x0) / ((4 : Int32)) = (x0) - (x0) / ((4 : Int32)) * ((4 : Int32)) then some ((0 : Int32), h) else some ((1 : Int32), h))))
set_option maxRecDepth 100000 in
set_option maxHeartbeats 8000000 in
theorem Ti_isPair_x {F : xF} {G : xG} {B sz : Nat} (C : xC F G B cTi_isPair RTi 1 0 0 0 0) (hr : (xFM F).sig.returnType = (some .boolean)) {n : Nat} {x0 : Int32} {h : xH} {R : Int32 × xH} (hR : Ti_isPair_f n x0 h = some R) : X F G B (xZ F G B (kP (some (.int R.1)) R.2 sz) 0 0) 1 h sz 0 0 0 [(0, .int (x0))] [] := by
  unfold Ti_isPair_f at hR
  refine X_iload_n C dTi_isPair_0 rfl ?_
  refine X_if_lt (tgt := 23) C dTi_isPair_1 (by decide) (fun c1 => ?_) (fun c1 => ?_)
  · rw [if_pos c1] at hR
    refine X_iconst (v := 0) C dTi_isPair_23 rfl ?_
    rw [← Option.some.inj hR]
    exact X_zret C hr rfl (Nat.le_refl _) (Nat.le_refl _) dTi_isPair_24 ⟨rfl, rfl, rfl⟩
  · rw [if_neg c1] at hR
    refine X_iload_n C dTi_isPair_4 rfl ?_
    refine X_bipush (v := 16) C dTi_isPair_5 (by decide) ?_
    refine X_icmp_ge (tgt := 23) C dTi_isPair_7 (by decide) (fun c2 => ?_) (fun c2 => ?_)
    · rw [if_pos c2] at hR
      refine X_iconst (v := 0) C dTi_isPair_23 rfl ?_
      rw [← Option.some.inj hR]
      exact X_zret C hr rfl (Nat.le_refl _) (Nat.le_refl _) dTi_isPair_24 ⟨rfl, rfl, rfl⟩
    · rw [if_neg c2] at hR
      refine X_iload_n C dTi_isPair_10 rfl ?_
      refine X_iconst (v := 4) C dTi_isPair_11 rfl ?_
      refine X_idiv C dTi_isPair_12 (by decide) ?_
      refine X_iload_n C dTi_isPair_13 rfl ?_
      refine X_iconst (v := 4) C dTi_isPair_14 rfl ?_
      refine X_irem C dTi_isPair_15 (by decide) ?_
      refine X_icmp_eq (tgt := 23) C dTi_isPair_16 (by decide) (fun c3 => ?_) (fun c3 => ?_)
      · rw [if_pos c3] at hR
        refine X_iconst (v := 0) C dTi_isPair_23 rfl ?_
        rw [← Option.some.inj hR]
        exact X_zret C hr rfl (Nat.le_refl _) (Nat.le_refl _) dTi_isPair_24 ⟨rfl, rfl, rfl⟩
      · rw [if_neg c3] at hR
        refine X_iconst (v := 1) C dTi_isPair_19 rfl ?_
        refine X_goto (tgt := 24) C dTi_isPair_20 (by decide) ?_
        rw [← Option.some.inj hR]
        exact X_zret C hr rfl (Nat.le_refl _) (Nat.le_refl _) dTi_isPair_24 ⟨rfl, rfl, rfl⟩
theorem Ti_isPair_c {l : Launch} {G : xG} {B sz : Nat} {n : Nat} {x0 : Int32} {h : xH} {R : Int32 × xH} (hR : Ti_isPair_f n x0 h = some R) : xCon l yTi_isPair cTi_isPair 1 (some .boolean) 0 0 0 0 G B [.int (x0)] h sz (kP (some (.int R.1)) R.2 sz) := xCon.of (by decide) (by exact Nat.le_of_ble_eq_true rfl) (fun F e C hr hnm => X_sub (lv' := [(0, .int (x0))]) [0] rfl (Ti_isPair_x C hr hR))
def Ti_test_f (n : Nat) (o : Nat) (x1 : Int32) (x2 : Int32) (x3 : Int32) (x4 : Int32) (x5 : Int32) (h : xH) : Option (Int32 × xH) := obd (gq h (o) 4 0) (fun w1 => obd w1 (fun a6 => (if kc h (a6) 3 = true then obd (Ya_wayAt_f n (a6) (x1) (x2) h) (fun r7 => bnd (r7.1) (fun w8 => oel (w8) (some (((-1) : Int32), r7.2)) (fun a10 => obd (Ti_isPair_f n (x3) r7.2) (fun r12 => (if r12.1 = 0 then some (((-1) : Int32), r12.2) else obd (Ti_isBetween_f n (x4) (((-100) : Int32)) ((100 : Int32)) r12.2) (fun r14 => (if r14.1 = 0 then some (((-1) : Int32), r14.2) else obd (gi r14.2 (a10) 7 6) (fun u16 => (if u16 < (3 : Int32) then obd (gq r14.2 (a10) 7 4) (fun w22 => obd (gi r14.2 (a10) 7 6) (fun u27 => obd w22 (fun a32 => obd (pa r14.2 (a32) 0 (u27) (x3)) (fun h33 => obd (gq h33 (a10) 7 5) (fun w40 => obd (gi h33 (a10) 7 6) (fun u45 => obd (Zo_mark_f n (x4) (x5) h33) (fun r50 => obd w40 (fun a51 => obd (pa r50.2 (a51) 0 (u45) (r50.1)) (fun h52 => obd (gi h52 (a10) 7 6) (fun u59 => obd (pf h52 (a10) 7 6 (.int ((u59) + ((1 : Int32))))) (fun h64 => obd (gi h64 (a10) 7 6) (fun u70 => some (u70, h64))))))))))))) else some (((-2) : Int32), r14.2)))))))))) else none)))
set_option maxRecDepth 100000 in
set_option maxHeartbeats 8000000 in
theorem Ti_test_x {F : xF} {G : xG} {B sz : Nat} {o : Nat} (C : xC F G B cTi_test RTi 7 2 44 0 0) (hr : (xFM F).sig.returnType = (some .int)) {n : Nat} {x1 : Int32} {x2 : Int32} {x3 : Int32} {x4 : Int32} {x5 : Int32} {h : xH} {R : Int32 × xH} (hR : Ti_test_f n o x1 x2 x3 x4 x5 h = some R) : X F G B (xZ F G B (kP (some (.int R.1)) R.2 sz) 0 0) 7 h sz 0 0 0 [(0, .ref (o)), (1, .int (x1)), (2, .int (x2)), (3, .int (x3)), (4, .int (x4)), (5, .int (x5))] [] := by
  unfold Ti_test_f at hR
  refine X_aload_n C dTi_test_0 rfl ?_
  have hq := o_bind hR
  clear hR
  obtain ⟨w1, hx5, hR⟩ := hq
  obtain ⟨fs2, he3, hv4⟩ := gq_e hx5
  refine X_get (k := 0) C oTi fwTi_10 he3 hv4 dTi_test_1 ?_
  refine X_iload_n C dTi_test_4 rfl ?_
  refine X_iload_n C dTi_test_5 rfl ?_
  have hq := o_bind hR
  clear hR
  obtain ⟨a6, rfl, hR⟩ := hq
  have hq := o_if hR
  clear hR
  obtain ⟨k75, hR⟩ := hq
  obtain ⟨fs76, he77⟩ := kc_e k75
  have hq := o_bind hR
  clear hR
  obtain ⟨r7, hr7, hR⟩ := hq
  refine X_callVk (As := [.int (x1), .int (x2)]) (rest := []) C (Ya_wayAt_c hr7) wTi_100 ⟨by decide, by decide⟩ ⟨Nat.le_refl _, Nat.le_refl _⟩ he77 oYa.2.1 rfl rfl (Nat.le_of_ble_eq_true rfl) dTi_test_6 ?_
  show X F G B _ 7 (r7.2) _ _ _ _ _ [va_rf (r7.1)]
  have hq := b_bnd hR
  clear hR
  obtain ⟨w8, e9, hR⟩ := hq
  rw [← e9]
  refine X_astoreq (lv' := [(6, va_rf (w8)), (0, .ref (o)), (1, .int (x1)), (2, .int (x2)), (3, .int (x3)), (4, .int (x4)), (5, .int (x5))]) C dTi_test_9 (by decide) rfl ?_
  refine X_aloadq C dTi_test_11 rfl ?_
  refine X_ifnullq (tgt := 35) C dTi_test_13 (by decide) (fun e11 => ?_) (fun a10 e11 => ?_)
  · subst e11
    rw [oel_n] at hR
    refine X_iconst (v := (-1)) C dTi_test_35 rfl ?_
    rw [← Option.some.inj hR]
    exact X_iret C hr (Nat.le_refl _) (Nat.le_refl _) dTi_test_36 ⟨rfl, rfl, rfl⟩
  · subst e11
    rw [oel_s] at hR
    refine X_iload_n C dTi_test_16 rfl ?_
    have hq := o_bind hR
    clear hR
    obtain ⟨r12, hr12, hR⟩ := hq
    refine X_callSk (As := [.int (x3)]) (rest := []) C (Ti_isPair_c hr12) wTi_104 ⟨by decide, by decide⟩ ⟨Nat.le_refl _, Nat.le_refl _⟩ rfl rfl (Nat.le_of_ble_eq_true rfl) dTi_test_17 ?_
    show X F G B _ 7 (r12.2) _ _ _ _ _ [.int (r12.1)]
    refine X_if_eq (tgt := 35) C dTi_test_20 (by decide) (fun c13 => ?_) (fun c13 => ?_)
    · rw [if_pos c13] at hR
      refine X_iconst (v := (-1)) C dTi_test_35 rfl ?_
      rw [← Option.some.inj hR]
      exact X_iret C hr (Nat.le_refl _) (Nat.le_refl _) dTi_test_36 ⟨rfl, rfl, rfl⟩
    · rw [if_neg c13] at hR
      refine X_iload C dTi_test_23 rfl ?_
      refine X_bipush (v := (-100)) C dTi_test_25 (by decide) ?_
      refine X_bipush (v := 100) C dTi_test_27 (by decide) ?_
      have hq := o_bind hR
      clear hR
      obtain ⟨r14, hr14, hR⟩ := hq
      refine X_callSk (As := [.int (x4), .int (((-100) : Int32)), .int ((100 : Int32))]) (rest := []) C (Ti_isBetween_c hr14) wTi_71 ⟨by decide, by decide⟩ ⟨Nat.le_refl _, Nat.le_refl _⟩ rfl rfl (Nat.le_of_ble_eq_true rfl) dTi_test_29 ?_
      show X F G B _ 7 (r14.2) _ _ _ _ _ [.int (r14.1)]
      refine X_if_ne (tgt := 37) C dTi_test_32 (by decide) (fun c15 => ?_) (fun c15 => ?_)
      · rw [if_neg c15] at hR
        refine X_aload C dTi_test_37 rfl ?_
        have hq := o_bind hR
        clear hR
        obtain ⟨u16, hx20, hR⟩ := hq
        obtain ⟨fs17, he18, hv19⟩ := gi_e hx20
        refine X_get (k := 6) C oWa fwTi_107 he18 hv19 dTi_test_39 ?_
        refine X_iconst (v := 3) C dTi_test_42 rfl ?_
        refine X_icmp_lt (tgt := 49) C dTi_test_43 (by decide) (fun c21 => ?_) (fun c21 => ?_)
        · rw [if_pos c21] at hR
          refine X_aload C dTi_test_49 rfl ?_
          have hq := o_bind hR
          clear hR
          obtain ⟨w22, hx26, hR⟩ := hq
          obtain ⟨fs23, he24, hv25⟩ := gq_e hx26
          refine X_get (k := 4) C oWa fwTi_110 he24 hv25 dTi_test_51 ?_
          refine X_aload C dTi_test_54 rfl ?_
          have hq := o_bind hR
          clear hR
          obtain ⟨u27, hx31, hR⟩ := hq
          obtain ⟨fs28, he29, hv30⟩ := gi_e hx31
          refine X_get (k := 6) C oWa fwTi_107 he29 hv30 dTi_test_56 ?_
          refine X_iload_n C dTi_test_59 rfl ?_
          have hq := o_bind hR
          clear hR
          obtain ⟨a32, rfl, hR⟩ := hq
          have hq := o_bind hR
          clear hR
          obtain ⟨h33, hh34, hR⟩ := hq
          obtain ⟨n35, f36, he37, hi38, e39⟩ := pa_e hh34
          refine X_iast C rfl he37 hi38 dTi_test_60 ?_
          rw [← e39]
          refine X_aload C dTi_test_61 rfl ?_
          have hq := o_bind hR
          clear hR
          obtain ⟨w40, hx44, hR⟩ := hq
          obtain ⟨fs41, he42, hv43⟩ := gq_e hx44
          refine X_get (k := 5) C oWa fwTi_113 he42 hv43 dTi_test_63 ?_
          refine X_aload C dTi_test_66 rfl ?_
          have hq := o_bind hR
          clear hR
          obtain ⟨u45, hx49, hR⟩ := hq
          obtain ⟨fs46, he47, hv48⟩ := gi_e hx49
          refine X_get (k := 6) C oWa fwTi_107 he47 hv48 dTi_test_68 ?_
          refine X_iload C dTi_test_71 rfl ?_
          refine X_iload C dTi_test_73 rfl ?_
          have hq := o_bind hR
          clear hR
          obtain ⟨r50, hr50, hR⟩ := hq
          refine X_callSk (As := [.int (x4), .int (x5)]) (rest := [.int (u45), va_rf (w40)]) C (Zo_mark_c hr50) wTi_84 ⟨by decide, by decide⟩ ⟨Nat.le_refl _, Nat.le_refl _⟩ rfl rfl (by simp [rf_cat, cat_i, cat_r, cat_l]) dTi_test_75 ?_
          show X F G B _ 7 (r50.2) _ _ _ _ _ [.int (r50.1), .int (u45), va_rf (w40)]
          have hq := o_bind hR
          clear hR
          obtain ⟨a51, rfl, hR⟩ := hq
          have hq := o_bind hR
          clear hR
          obtain ⟨h52, hh53, hR⟩ := hq
          obtain ⟨n54, f55, he56, hi57, e58⟩ := pa_e hh53
          refine X_iast C rfl he56 hi57 dTi_test_78 ?_
          rw [← e58]
          refine X_aload C dTi_test_79 rfl ?_
          refine X_dup C dTi_test_81 rfl ?_
          have hq := o_bind hR
          clear hR
          obtain ⟨u59, hx63, hR⟩ := hq
          obtain ⟨fs60, he61, hv62⟩ := gi_e hx63
          refine X_get (k := 6) C oWa fwTi_107 he61 hv62 dTi_test_82 ?_
          refine X_iconst (v := 1) C dTi_test_85 rfl ?_
          refine X_iadd C dTi_test_86 ?_
          have hq := o_bind hR
          clear hR
          obtain ⟨h64, hh65, hR⟩ := hq
          obtain ⟨fs66, he67, hl68, e69⟩ := pf_e hh65
          refine X_put (k := 6) C oWa fwTi_107 rfl he67 rfl rfl hl68 dTi_test_87 ?_
          rw [← e69]
          refine X_aload C dTi_test_90 rfl ?_
          have hq := o_bind hR
          clear hR
          obtain ⟨u70, hx74, hR⟩ := hq
          obtain ⟨fs71, he72, hv73⟩ := gi_e hx74
          refine X_get (k := 6) C oWa fwTi_107 he72 hv73 dTi_test_92 ?_
          rw [← Option.some.inj hR]
          exact X_iret C hr (Nat.le_refl _) (Nat.le_refl _) dTi_test_95 ⟨rfl, rfl, rfl⟩
        · rw [if_neg c21] at hR
          refine X_bipush (v := (-2)) C dTi_test_46 (by decide) ?_
          rw [← Option.some.inj hR]
          exact X_iret C hr (Nat.le_refl _) (Nat.le_refl _) dTi_test_48 ⟨rfl, rfl, rfl⟩
      · rw [if_pos c15] at hR
        refine X_iconst (v := (-1)) C dTi_test_35 rfl ?_
        rw [← Option.some.inj hR]
        exact X_iret C hr (Nat.le_refl _) (Nat.le_refl _) dTi_test_36 ⟨rfl, rfl, rfl⟩
theorem Ti_test_c {l : Launch} {G : xG} {B sz : Nat} {o : Nat} {n : Nat} {x1 : Int32} {x2 : Int32} {x3 : Int32} {x4 : Int32} {x5 : Int32} {h : xH} {R : Int32 × xH} (hR : Ti_test_f n o x1 x2 x3 x4 x5 h = some R) : xCon l yTi_test cTi_test 7 (some .int) 2 44 0 0 G B [.ref (o), .int (x1), .int (x2), .int (x3), .int (x4), .int (x5)] h sz (kP (some (.int R.1)) R.2 sz) := xCon.of (by decide) (by exact Nat.le_of_ble_eq_true rfl) (fun F e C hr hnm => X_sub (lv' := [(0, .ref (o)), (1, .int (x1)), (2, .int (x2)), (3, .int (x3)), (4, .int (x4)), (5, .int (x5))]) [0, 1, 2, 3, 4, 5] rfl (Ti_test_x C hr hR))
def Ti_walk_t0 (f : Nat → Int32 → xH → Nat → Option (Int32 × xH × Nat × Nat)) (n : Nat) (o : Nat) (x1 : Int32) (h : xH) (z : Nat) : Option (Int32 × xH × Nat × Nat) := obd (gq h (o) 4 0) (fun w1 => obd w1 (fun a6 => (if kc h (a6) 3 = true then obd (Ya_canBeWalked_f n 0 (a6) 0 h) (fun r7 => (if r7.1 = 0 then some (((-1) : Int32), r7.2, 0, 0) else obd (gq r7.2 (o) 4 0) (fun w9 => obd w9 (fun a14 => (if kc r7.2 (a14) 3 = true then obd (Ya_begin_f n 0 (a14) 0 r7.2 (z)) (fun r15 => oadd r15.2.2.1 r15.2.2.2 (f 21 ((0 : Int32)) r15.2.1 (z + r15.2.2.1))) else none))))) else none)))
def Ti_walk_t21 (f : Nat → Int32 → xH → Nat → Option (Int32 × xH × Nat × Nat)) (n : Nat) (o : Nat) (x1 : Int32) (h : xH) (z : Nat) : Option (Int32 × xH × Nat × Nat) := (if (200 : Int32) ≤ x1 then obd (gq h (o) 4 0) (fun w25 => obd w25 (fun a30 => obd (gi h (a30) 3 3) (fun u31 => some (u31, h, 0, 0)))) else obd (gq h (o) 4 0) (fun w36 => obd w36 (fun a41 => (if kc h (a41) 3 = true then obd (Ya_stateAt_f n (a41) (x1) h) (fun r42 => bnd (r42.1) (fun w43 => oel (w43) (obd (gq r42.2 (o) 4 0) (fun w47 => obd w47 (fun a52 => obd (gi r42.2 (a52) 3 3) (fun u53 => some (u53, r42.2, 0, 0))))) (fun a45 => obd (gq r42.2 (o) 4 0) (fun w58 => obd w58 (fun a63 => (if kc r42.2 (a63) 3 = true then obd (Ya_lookAt_f n 0 (a63) (some (a45)) 0 0 r42.2 (z)) (fun r64 => oadd r64.2.2.1 r64.2.2.2 ((if r64.1 = 0 then obd (gq r64.2.1 (o) 4 0) (fun w66 => obd w66 (fun a71 => obd (gi r64.2.1 (a71) 3 3) (fun u72 => some ((((-2) : Int32)) - (u72), r64.2.1, 0, 0)))) else f 21 (x1 + 1) r64.2.1 (z + r64.2.2.1)))) else none)))))) else none))))
def Ti_walk_f : Nat → Nat → Nat → Int32 → xH → Nat → Option (Int32 × xH × Nat × Nat)
  | 0 => fun _ _ _ _ _ => none
  | n + 1 => fun p o x1 h z => if p = 0 then Ti_walk_t0 (fun p x1 h z => Ti_walk_f n p o x1 h z) n o x1 h z else if p = 21 then Ti_walk_t21 (fun p x1 h z => Ti_walk_f n p o x1 h z) n o x1 h z else none
theorem Ti_walk_e0 (n : Nat) (o : Nat) (x1 : Int32) (h : xH) (z : Nat) : Ti_walk_f (n + 1) 0 o x1 h z = Ti_walk_t0 (fun p x1 h z => Ti_walk_f n p o x1 h z) n o x1 h z := by
  show (if 0 = 0 then Ti_walk_t0 (fun p x1 h z => Ti_walk_f n p o x1 h z) n o x1 h z else if 0 = 21 then Ti_walk_t21 (fun p x1 h z => Ti_walk_f n p o x1 h z) n o x1 h z else none) = _
  rw [if_pos rfl]
theorem Ti_walk_e21 (n : Nat) (o : Nat) (x1 : Int32) (h : xH) (z : Nat) : Ti_walk_f (n + 1) 21 o x1 h z = Ti_walk_t21 (fun p x1 h z => Ti_walk_f n p o x1 h z) n o x1 h z := by
  show (if 21 = 0 then Ti_walk_t0 (fun p x1 h z => Ti_walk_f n p o x1 h z) n o x1 h z else if 21 = 21 then Ti_walk_t21 (fun p x1 h z => Ti_walk_f n p o x1 h z) n o x1 h z else none) = _
  rw [if_neg (by decide), if_pos rfl]
set_option maxRecDepth 100000 in
set_option maxHeartbeats 8000000 in
theorem Ti_walk_x {F : xF} {G : xG} {B mc ms : Nat} {o : Nat} (C : xC F G B cTi_walk RTi 3 7 176 mc ms) (hr : (xFM F).sig.returnType = (some .int)) : ∀ (n : Nat) (x1 : Int32) (h : xH) (z cs ss : Nat) (R : Int32 × xH × Nat × Nat) (Zf : Nat), cs + R.2.2.1 ≤ mc → ss + R.2.2.2 ≤ ms → Zf = z + R.2.2.1 → ((Ti_walk_f n 0 o x1 h z = some R → X F G B (xZ F G B (kP (some (.int R.1)) R.2.1 Zf) mc ms) 3 h z cs ss 0 [(0, .ref (o))] []) ∧ (Ti_walk_f n 21 o x1 h z = some R → X F G B (xZ F G B (kP (some (.int R.1)) R.2.1 Zf) mc ms) 3 h z cs ss 21 [(0, .ref (o)), (1, .int (x1))] [])) := by
  intro n
  induction n with
  | zero => exact fun _ _ _ _ _ _ _ _ _ _ => ⟨(fun hR => nomatch (show (none : Option _) = some _ from hR)), (fun hR => nomatch (show (none : Option _) = some _ from hR))⟩
  | succ n ih =>
    intro x1 h z cs ss R Zf hm hs hz
    refine ⟨fun hR => ?_, fun hR => ?_⟩
    · rw [Ti_walk_e0] at hR
      unfold Ti_walk_t0 at hR
      refine X_aload_n C dTi_walk_0 rfl ?_
      have hq := o_bind hR
      clear hR
      obtain ⟨w1, hx5, hR⟩ := hq
      obtain ⟨fs2, he3, hv4⟩ := gq_e hx5
      refine X_get (k := 0) C oTi fwTi_10 he3 hv4 dTi_walk_1 ?_
      have hq := o_bind hR
      clear hR
      obtain ⟨a6, rfl, hR⟩ := hq
      have hq := o_if hR
      clear hR
      obtain ⟨k21, hR⟩ := hq
      obtain ⟨fs22, he23⟩ := kc_e k21
      have hq := o_bind hR
      clear hR
      obtain ⟨r7, hr7, hR⟩ := hq
      refine X_callVk (As := []) (rest := []) C (Ya_canBeWalked_c hr7) wTi_114 ⟨by decide, by decide⟩ ⟨by omega, by omega⟩ he23 oYa.2.1 rfl rfl (Nat.le_of_ble_eq_true rfl) dTi_walk_4 ?_
      show X F G B _ 3 (r7.2) _ _ _ _ _ [.int (r7.1)]
      refine X_if_ne (tgt := 12) C dTi_walk_7 (by decide) (fun c8 => ?_) (fun c8 => ?_)
      · rw [if_neg c8] at hR
        refine X_aload_n C dTi_walk_12 rfl ?_
        have hq := o_bind hR
        clear hR
        obtain ⟨w9, hx13, hR⟩ := hq
        obtain ⟨fs10, he11, hv12⟩ := gq_e hx13
        refine X_get (k := 0) C oTi fwTi_10 he11 hv12 dTi_walk_13 ?_
        have hq := o_bind hR
        clear hR
        obtain ⟨a14, rfl, hR⟩ := hq
        have hq := o_if hR
        clear hR
        obtain ⟨k18, hR⟩ := hq
        obtain ⟨fs19, he20⟩ := kc_e k18
        have hq := o_bind hR
        clear hR
        obtain ⟨r15, hr15, hR⟩ := hq
        have hq := o_add hR
        clear hR
        obtain ⟨R17, e16, hR⟩ := hq
        subst e16
        dsimp only at hm hs hz ⊢
        refine X_callVa (As := []) (rest := []) C (Ya_begin_c hr15) wTi_118 ⟨by decide, by decide⟩ ⟨by omega, by omega⟩ he20 oYa.2.1 rfl rfl (Nat.le_of_ble_eq_true rfl) dTi_walk_16 ?_
        show X F G B _ 3 (r15.2.1) _ _ _ _ _ []
        refine X_iconst (v := 0) C dTi_walk_19 rfl ?_
        refine X_istore_n (lv' := [(1, .int ((0 : Int32))), (0, .ref (o))]) C dTi_walk_20 (by decide) rfl ?_
        refine X_sub (lv' := [(0, .ref (o)), (1, .int ((0 : Int32)))]) [1, 0] rfl ?_
        exact (ih ((0 : Int32)) _ _ _ _ _ _ (by omega) (by omega) (by omega)).2 hR
      · rw [if_pos c8] at hR
        refine X_iconst (v := (-1)) C dTi_walk_10 rfl ?_
        have hR := Option.some.inj hR
        subst hR
        dsimp only at hm hs hz ⊢
        exact X_iret C hr (by omega) (by omega) dTi_walk_11 ⟨rfl, rfl, by omega⟩
    · rw [Ti_walk_e21] at hR
      unfold Ti_walk_t21 at hR
      refine X_iload_n C dTi_walk_21 rfl ?_
      refine X_sipush (v := 200) C dTi_walk_22 (by decide) ?_
      refine X_icmp_ge (tgt := 72) C dTi_walk_25 (by decide) (fun c24 => ?_) (fun c24 => ?_)
      · rw [if_pos c24] at hR
        refine X_aload_n C dTi_walk_72 rfl ?_
        have hq := o_bind hR
        clear hR
        obtain ⟨w25, hx29, hR⟩ := hq
        obtain ⟨fs26, he27, hv28⟩ := gq_e hx29
        refine X_get (k := 0) C oTi fwTi_10 he27 hv28 dTi_walk_73 ?_
        have hq := o_bind hR
        clear hR
        obtain ⟨a30, rfl, hR⟩ := hq
        have hq := o_bind hR
        clear hR
        obtain ⟨u31, hx35, hR⟩ := hq
        obtain ⟨fs32, he33, hv34⟩ := gi_e hx35
        refine X_get (k := 3) C oYa fwTi_129 he33 hv34 dTi_walk_76 ?_
        have hR := Option.some.inj hR
        subst hR
        dsimp only at hm hs hz ⊢
        exact X_iret C hr (by omega) (by omega) dTi_walk_79 ⟨rfl, rfl, by omega⟩
      · rw [if_neg c24] at hR
        refine X_aload_n C dTi_walk_28 rfl ?_
        have hq := o_bind hR
        clear hR
        obtain ⟨w36, hx40, hR⟩ := hq
        obtain ⟨fs37, he38, hv39⟩ := gq_e hx40
        refine X_get (k := 0) C oTi fwTi_10 he38 hv39 dTi_walk_29 ?_
        refine X_iload_n C dTi_walk_32 rfl ?_
        have hq := o_bind hR
        clear hR
        obtain ⟨a41, rfl, hR⟩ := hq
        have hq := o_if hR
        clear hR
        obtain ⟨k82, hR⟩ := hq
        obtain ⟨fs83, he84⟩ := kc_e k82
        have hq := o_bind hR
        clear hR
        obtain ⟨r42, hr42, hR⟩ := hq
        refine X_callVk (As := [.int (x1)]) (rest := []) C (Ya_stateAt_c hr42) wTi_121 ⟨by decide, by decide⟩ ⟨by omega, by omega⟩ he84 oYa.2.1 rfl rfl (Nat.le_of_ble_eq_true rfl) dTi_walk_33 ?_
        show X F G B _ 3 (r42.2) _ _ _ _ _ [va_rf (r42.1)]
        have hq := b_bnd hR
        clear hR
        obtain ⟨w43, e44, hR⟩ := hq
        rw [← e44]
        refine X_astore_nq (lv' := [(2, va_rf (w43)), (0, .ref (o)), (1, .int (x1))]) C dTi_walk_36 (by decide) rfl ?_
        refine X_aload_nq C dTi_walk_37 rfl ?_
        refine X_ifnonnullq (tgt := 44) C dTi_walk_38 (by decide) (fun a45 e46 => ?_) (fun e46 => ?_)
        · subst e46
          rw [oel_s] at hR
          refine X_aload_n C dTi_walk_44 rfl ?_
          have hq := o_bind hR
          clear hR
          obtain ⟨w58, hx62, hR⟩ := hq
          obtain ⟨fs59, he60, hv61⟩ := gq_e hx62
          refine X_get (k := 0) C oTi fwTi_10 he60 hv61 dTi_walk_45 ?_
          refine X_aload_n C dTi_walk_48 rfl ?_
          have hq := o_bind hR
          clear hR
          obtain ⟨a63, rfl, hR⟩ := hq
          have hq := o_if hR
          clear hR
          obtain ⟨k79, hR⟩ := hq
          obtain ⟨fs80, he81⟩ := kc_e k79
          have hq := o_bind hR
          clear hR
          obtain ⟨r64, hr64, hR⟩ := hq
          have hq := o_add hR
          clear hR
          obtain ⟨R78, e77, hR⟩ := hq
          subst e77
          dsimp only at hm hs hz ⊢
          refine X_callVa (As := [.ref (a45)]) (rest := []) C (Ya_lookAt_c hr64) wTi_125 ⟨by decide, by decide⟩ ⟨by omega, by omega⟩ he81 oYa.2.1 rfl rfl (Nat.le_of_ble_eq_true rfl) dTi_walk_49 ?_
          show X F G B _ 3 (r64.2.1) _ _ _ _ _ [.int (r64.1)]
          refine X_if_ne (tgt := 66) C dTi_walk_52 (by decide) (fun c65 => ?_) (fun c65 => ?_)
          · rw [if_neg c65] at hR
            refine X_iinc (v := x1 + 1) (lv' := [(1, .int (x1 + 1)), (2, .ref (a45)), (0, .ref (o))]) C dTi_walk_66 rfl rfl (by decide) rfl ?_
            refine X_goto (tgt := 21) C dTi_walk_69 (by decide) ?_
            refine X_sub (lv' := [(0, .ref (o)), (1, .int (x1 + 1))]) [2, 0] rfl ?_
            exact (ih (x1 + 1) _ _ _ _ _ _ (by omega) (by omega) (by omega)).2 hR
          · rw [if_pos c65] at hR
            refine X_bipush (v := (-2)) C dTi_walk_55 (by decide) ?_
            refine X_aload_n C dTi_walk_57 rfl ?_
            have hq := o_bind hR
            clear hR
            obtain ⟨w66, hx70, hR⟩ := hq
            obtain ⟨fs67, he68, hv69⟩ := gq_e hx70
            refine X_get (k := 0) C oTi fwTi_10 he68 hv69 dTi_walk_58 ?_
            have hq := o_bind hR
            clear hR
            obtain ⟨a71, rfl, hR⟩ := hq
            have hq := o_bind hR
            clear hR
            obtain ⟨u72, hx76, hR⟩ := hq
            obtain ⟨fs73, he74, hv75⟩ := gi_e hx76
            refine X_get (k := 3) C oYa fwTi_129 he74 hv75 dTi_walk_61 ?_
            refine X_isub C dTi_walk_64 ?_
            have hR := Option.some.inj hR
            subst hR
            dsimp only at hm hs hz ⊢
            exact X_iret C hr (by omega) (by omega) dTi_walk_65 ⟨rfl, rfl, by omega⟩
        · subst e46
          rw [oel_n] at hR
          refine X_goto (tgt := 72) C dTi_walk_41 (by decide) ?_
          refine X_aload_n C dTi_walk_72 rfl ?_
          have hq := o_bind hR
          clear hR
          obtain ⟨w47, hx51, hR⟩ := hq
          obtain ⟨fs48, he49, hv50⟩ := gq_e hx51
          refine X_get (k := 0) C oTi fwTi_10 he49 hv50 dTi_walk_73 ?_
          have hq := o_bind hR
          clear hR
          obtain ⟨a52, rfl, hR⟩ := hq
          have hq := o_bind hR
          clear hR
          obtain ⟨u53, hx57, hR⟩ := hq
          obtain ⟨fs54, he55, hv56⟩ := gi_e hx57
          refine X_get (k := 3) C oYa fwTi_129 he55 hv56 dTi_walk_76 ?_
          have hR := Option.some.inj hR
          subst hR
          dsimp only at hm hs hz ⊢
          exact X_iret C hr (by omega) (by omega) dTi_walk_79 ⟨rfl, rfl, by omega⟩
theorem Ti_walk_c {l : Launch} {G : xG} {B sz : Nat} {o : Nat} {n : Nat} {h : xH} {R : Int32 × xH × Nat × Nat} (hR : Ti_walk_f n 0 o 0 h sz = some R) : xCon l yTi_walk cTi_walk 3 (some .int) 7 176 R.2.2.1 R.2.2.2 G B [.ref (o)] h sz (kP (some (.int R.1)) R.2.1 (sz + R.2.2.1)) := xCon.of (by decide) (by exact Nat.le_of_ble_eq_true rfl) (fun F e C hr hnm => X_sub (lv' := [(0, .ref (o))]) [0] rfl ((Ti_walk_x C hr n 0 h sz 0 0 R _ (Nat.le_of_eq (Nat.zero_add _)) (Nat.le_of_eq (Nat.zero_add _)) rfl).1 hR))
def Ti_state_f (n : Nat) (o : Nat) (x1 : Int32) (x2 : Int32) (h : xH) : Option (Int32 × xH) := obd (gq h (o) 4 0) (fun w1 => obd w1 (fun a6 => (if kc h (a6) 3 = true then obd (Ya_stateAt_f n (a6) (x1) h) (fun r7 => bnd (r7.1) (fun w8 => oel (w8) (some (((-1) : Int32), r7.2)) (fun a10 => (if x2 = 0 then obd (gq r7.2 (a10) 2 1) (fun w13 => obd w13 (fun a18 => obd (ai r7.2 (a18) 0 (x2)) (fun u19 => some (u19, r7.2)))) else (if x2 = 1 then obd (gq r7.2 (a10) 2 1) (fun w27 => obd w27 (fun a32 => obd (ai r7.2 (a32) 0 (x2)) (fun u33 => some (u33, r7.2)))) else (if x2 = 2 then obd (gq r7.2 (a10) 2 1) (fun w41 => obd w41 (fun a46 => obd (ai r7.2 (a46) 0 (x2)) (fun u47 => some (u47, r7.2)))) else (if x2 = 3 then obd (gi r7.2 (a10) 2 5) (fun u55 => some (u55, r7.2)) else (if x2 = 4 then obd (gi r7.2 (a10) 2 6) (fun u61 => some (u61, r7.2)) else (if x2 = 5 then obd (gq r7.2 (o) 4 0) (fun w67 => obd w67 (fun a72 => obd (gi r7.2 (a72) 3 4) (fun u73 => (if u73 ≤ x1 then some (((-2) : Int32), r7.2) else obd (gi r7.2 (a10) 2 7) (fun u79 => some (u79, r7.2)))))) else (if x2 = 6 then obd (gi r7.2 (a10) 2 9) (fun u85 => some (u85, r7.2)) else some (((-1) : Int32), r7.2))))))))))) else none)))
set_option maxRecDepth 100000 in
set_option maxHeartbeats 8000000 in
theorem Ti_state_x {F : xF} {G : xG} {B sz : Nat} {o : Nat} (C : xC F G B cTi_state RTi 4 1 21 0 0) (hr : (xFM F).sig.returnType = (some .int)) {n : Nat} {x1 : Int32} {x2 : Int32} {h : xH} {R : Int32 × xH} (hR : Ti_state_f n o x1 x2 h = some R) : X F G B (xZ F G B (kP (some (.int R.1)) R.2 sz) 0 0) 4 h sz 0 0 0 [(0, .ref (o)), (1, .int (x1)), (2, .int (x2))] [] := by
  unfold Ti_state_f at hR
  refine X_aload_n C dTi_state_0 rfl ?_
  have hq := o_bind hR
  clear hR
  obtain ⟨w1, hx5, hR⟩ := hq
  obtain ⟨fs2, he3, hv4⟩ := gq_e hx5
  refine X_get (k := 0) C oTi fwTi_10 he3 hv4 dTi_state_1 ?_
  refine X_iload_n C dTi_state_4 rfl ?_
  have hq := o_bind hR
  clear hR
  obtain ⟨a6, rfl, hR⟩ := hq
  have hq := o_if hR
  clear hR
  obtain ⟨k90, hR⟩ := hq
  obtain ⟨fs91, he92⟩ := kc_e k90
  have hq := o_bind hR
  clear hR
  obtain ⟨r7, hr7, hR⟩ := hq
  refine X_callVk (As := [.int (x1)]) (rest := []) C (Ya_stateAt_c hr7) wTi_121 ⟨by decide, by decide⟩ ⟨Nat.le_refl _, Nat.le_refl _⟩ he92 oYa.2.1 rfl rfl (Nat.le_of_ble_eq_true rfl) dTi_state_5 ?_
  show X F G B _ 4 (r7.2) _ _ _ _ _ [va_rf (r7.1)]
  have hq := b_bnd hR
  clear hR
  obtain ⟨w8, e9, hR⟩ := hq
  rw [← e9]
  refine X_astore_nq (lv' := [(3, va_rf (w8)), (0, .ref (o)), (1, .int (x1)), (2, .int (x2))]) C dTi_state_8 (by decide) rfl ?_
  refine X_aload_nq C dTi_state_9 rfl ?_
  refine X_ifnonnullq (tgt := 15) C dTi_state_10 (by decide) (fun a10 e11 => ?_) (fun e11 => ?_)
  · subst e11
    rw [oel_s] at hR
    refine X_iload_n C dTi_state_15 rfl ?_
    by_cases c12 : x2 = 0
    · rw [if_pos c12] at hR
      refine X_tableIn (off := 44) (tgt := 60) C dTi_state_16 (by rw [c12]; decide) (by rw [c12]; decide) (by rw [c12]; rfl) (by decide) ?_
      refine X_aload_n C dTi_state_60 rfl ?_
      have hq := o_bind hR
      clear hR
      obtain ⟨w13, hx17, hR⟩ := hq
      obtain ⟨fs14, he15, hv16⟩ := gq_e hx17
      refine X_get (k := 1) C oSt fwTi_132 he15 hv16 dTi_state_61 ?_
      refine X_iload_n C dTi_state_64 rfl ?_
      have hq := o_bind hR
      clear hR
      obtain ⟨a18, rfl, hR⟩ := hq
      have hq := o_bind hR
      clear hR
      obtain ⟨u19, hx20, hR⟩ := hq
      obtain ⟨n21, f22, he23, hi24, e25⟩ := ai_e hx20
      refine X_iald C rfl he23 hi24 dTi_state_65 ?_
      rw [← e25]
      rw [← Option.some.inj hR]
      exact X_iret C hr (Nat.le_refl _) (Nat.le_refl _) dTi_state_66 ⟨rfl, rfl, rfl⟩
    · rw [if_neg c12] at hR
      by_cases c26 : x2 = 1
      · rw [if_pos c26] at hR
        refine X_tableIn (off := 44) (tgt := 60) C dTi_state_16 (by rw [c26]; decide) (by rw [c26]; decide) (by rw [c26]; rfl) (by decide) ?_
        refine X_aload_n C dTi_state_60 rfl ?_
        have hq := o_bind hR
        clear hR
        obtain ⟨w27, hx31, hR⟩ := hq
        obtain ⟨fs28, he29, hv30⟩ := gq_e hx31
        refine X_get (k := 1) C oSt fwTi_132 he29 hv30 dTi_state_61 ?_
        refine X_iload_n C dTi_state_64 rfl ?_
        have hq := o_bind hR
        clear hR
        obtain ⟨a32, rfl, hR⟩ := hq
        have hq := o_bind hR
        clear hR
        obtain ⟨u33, hx34, hR⟩ := hq
        obtain ⟨n35, f36, he37, hi38, e39⟩ := ai_e hx34
        refine X_iald C rfl he37 hi38 dTi_state_65 ?_
        rw [← e39]
        rw [← Option.some.inj hR]
        exact X_iret C hr (Nat.le_refl _) (Nat.le_refl _) dTi_state_66 ⟨rfl, rfl, rfl⟩
      · rw [if_neg c26] at hR
        by_cases c40 : x2 = 2
        · rw [if_pos c40] at hR
          refine X_tableIn (off := 44) (tgt := 60) C dTi_state_16 (by rw [c40]; decide) (by rw [c40]; decide) (by rw [c40]; rfl) (by decide) ?_
          refine X_aload_n C dTi_state_60 rfl ?_
          have hq := o_bind hR
          clear hR
          obtain ⟨w41, hx45, hR⟩ := hq
          obtain ⟨fs42, he43, hv44⟩ := gq_e hx45
          refine X_get (k := 1) C oSt fwTi_132 he43 hv44 dTi_state_61 ?_
          refine X_iload_n C dTi_state_64 rfl ?_
          have hq := o_bind hR
          clear hR
          obtain ⟨a46, rfl, hR⟩ := hq
          have hq := o_bind hR
          clear hR
          obtain ⟨u47, hx48, hR⟩ := hq
          obtain ⟨n49, f50, he51, hi52, e53⟩ := ai_e hx48
          refine X_iald C rfl he51 hi52 dTi_state_65 ?_
          rw [← e53]
          rw [← Option.some.inj hR]
          exact X_iret C hr (Nat.le_refl _) (Nat.le_refl _) dTi_state_66 ⟨rfl, rfl, rfl⟩
        · rw [if_neg c40] at hR
          by_cases c54 : x2 = 3
          · rw [if_pos c54] at hR
            refine X_tableIn (off := 51) (tgt := 67) C dTi_state_16 (by rw [c54]; decide) (by rw [c54]; decide) (by rw [c54]; rfl) (by decide) ?_
            refine X_aload_n C dTi_state_67 rfl ?_
            have hq := o_bind hR
            clear hR
            obtain ⟨u55, hx59, hR⟩ := hq
            obtain ⟨fs56, he57, hv58⟩ := gi_e hx59
            refine X_get (k := 5) C oSt fwTi_136 he57 hv58 dTi_state_68 ?_
            rw [← Option.some.inj hR]
            exact X_iret C hr (Nat.le_refl _) (Nat.le_refl _) dTi_state_71 ⟨rfl, rfl, rfl⟩
          · rw [if_neg c54] at hR
            by_cases c60 : x2 = 4
            · rw [if_pos c60] at hR
              refine X_tableIn (off := 56) (tgt := 72) C dTi_state_16 (by rw [c60]; decide) (by rw [c60]; decide) (by rw [c60]; rfl) (by decide) ?_
              refine X_aload_n C dTi_state_72 rfl ?_
              have hq := o_bind hR
              clear hR
              obtain ⟨u61, hx65, hR⟩ := hq
              obtain ⟨fs62, he63, hv64⟩ := gi_e hx65
              refine X_get (k := 6) C oSt fwTi_139 he63 hv64 dTi_state_73 ?_
              rw [← Option.some.inj hR]
              exact X_iret C hr (Nat.le_refl _) (Nat.le_refl _) dTi_state_76 ⟨rfl, rfl, rfl⟩
            · rw [if_neg c60] at hR
              by_cases c66 : x2 = 5
              · rw [if_pos c66] at hR
                refine X_tableIn (off := 61) (tgt := 77) C dTi_state_16 (by rw [c66]; decide) (by rw [c66]; decide) (by rw [c66]; rfl) (by decide) ?_
                refine X_iload_n C dTi_state_77 rfl ?_
                refine X_aload_n C dTi_state_78 rfl ?_
                have hq := o_bind hR
                clear hR
                obtain ⟨w67, hx71, hR⟩ := hq
                obtain ⟨fs68, he69, hv70⟩ := gq_e hx71
                refine X_get (k := 0) C oTi fwTi_10 he69 hv70 dTi_state_79 ?_
                have hq := o_bind hR
                clear hR
                obtain ⟨a72, rfl, hR⟩ := hq
                have hq := o_bind hR
                clear hR
                obtain ⟨u73, hx77, hR⟩ := hq
                obtain ⟨fs74, he75, hv76⟩ := gi_e hx77
                refine X_get (k := 4) C oYa fwTi_142 he75 hv76 dTi_state_82 ?_
                refine X_icmp_ge (tgt := 95) C dTi_state_85 (by decide) (fun c78 => ?_) (fun c78 => ?_)
                · rw [if_pos c78] at hR
                  refine X_bipush (v := (-2)) C dTi_state_95 (by decide) ?_
                  rw [← Option.some.inj hR]
                  exact X_iret C hr (Nat.le_refl _) (Nat.le_refl _) dTi_state_97 ⟨rfl, rfl, rfl⟩
                · rw [if_neg c78] at hR
                  refine X_aload_n C dTi_state_88 rfl ?_
                  have hq := o_bind hR
                  clear hR
                  obtain ⟨u79, hx83, hR⟩ := hq
                  obtain ⟨fs80, he81, hv82⟩ := gi_e hx83
                  refine X_get (k := 7) C oSt fwTi_145 he81 hv82 dTi_state_89 ?_
                  refine X_goto (tgt := 97) C dTi_state_92 (by decide) ?_
                  rw [← Option.some.inj hR]
                  exact X_iret C hr (Nat.le_refl _) (Nat.le_refl _) dTi_state_97 ⟨rfl, rfl, rfl⟩
              · rw [if_neg c66] at hR
                by_cases c84 : x2 = 6
                · rw [if_pos c84] at hR
                  refine X_tableIn (off := 82) (tgt := 98) C dTi_state_16 (by rw [c84]; decide) (by rw [c84]; decide) (by rw [c84]; rfl) (by decide) ?_
                  refine X_aload_n C dTi_state_98 rfl ?_
                  have hq := o_bind hR
                  clear hR
                  obtain ⟨u85, hx89, hR⟩ := hq
                  obtain ⟨fs86, he87, hv88⟩ := gi_e hx89
                  refine X_get (k := 9) C oSt fwTi_148 he87 hv88 dTi_state_99 ?_
                  rw [← Option.some.inj hR]
                  exact X_iret C hr (Nat.le_refl _) (Nat.le_refl _) dTi_state_102 ⟨rfl, rfl, rfl⟩
                · rw [if_neg c84] at hR
                  have ec12 := lv_neT (a := 0) c12 (by decide)
                  have ec26 := lv_neT (a := 1) c26 (by decide)
                  have ec40 := lv_neT (a := 2) c40 (by decide)
                  have ec54 := lv_neT (a := 3) c54 (by decide)
                  have ec60 := lv_neT (a := 4) c60 (by decide)
                  have ec66 := lv_neT (a := 5) c66 (by decide)
                  have ec84 := lv_neT (a := 6) c84 (by decide)
                  refine X_tableOut (tgt := 103) C dTi_state_16 (by omega) (by decide) ?_
                  refine X_iconst (v := (-1)) C dTi_state_103 rfl ?_
                  rw [← Option.some.inj hR]
                  exact X_iret C hr (Nat.le_refl _) (Nat.le_refl _) dTi_state_104 ⟨rfl, rfl, rfl⟩
  · subst e11
    rw [oel_n] at hR
    refine X_iconst (v := (-1)) C dTi_state_13 rfl ?_
    rw [← Option.some.inj hR]
    exact X_iret C hr (Nat.le_refl _) (Nat.le_refl _) dTi_state_14 ⟨rfl, rfl, rfl⟩
theorem Ti_state_c {l : Launch} {G : xG} {B sz : Nat} {o : Nat} {n : Nat} {x1 : Int32} {x2 : Int32} {h : xH} {R : Int32 × xH} (hR : Ti_state_f n o x1 x2 h = some R) : xCon l yTi_state cTi_state 4 (some .int) 1 21 0 0 G B [.ref (o), .int (x1), .int (x2)] h sz (kP (some (.int R.1)) R.2 sz) := xCon.of (by decide) (by exact Nat.le_of_ble_eq_true rfl) (fun F e C hr hnm => X_sub (lv' := [(0, .ref (o)), (1, .int (x1)), (2, .int (x2))]) [0, 1, 2] rfl (Ti_state_x C hr hR))
def Ti_seen_t0 (f : Nat → Int32 → Int32 → Int32 → Int32 → Int32 → xH → Option (Int32 × xH)) (n : Nat) (o : Nat) (x1 : Int32) (x2 : Int32) (x3 : Int32) (x4 : Int32) (x5 : Int32) (h : xH) : Option (Int32 × xH) := obd (Ti_isBetween_f n (x1) (((-1) : Int32)) ((5 : Int32)) h) (fun r1 => (if r1.1 = 0 then some (((-1) : Int32), r1.2) else obd (Ti_isBetween_f n (x2) (((-1) : Int32)) ((5 : Int32)) r1.2) (fun r3 => (if r3.1 = 0 then some (((-1) : Int32), r3.2) else obd (Ti_isBetween_f n (x3) (((-1) : Int32)) ((5 : Int32)) r3.2) (fun r5 => (if r5.1 = 0 then some (((-1) : Int32), r5.2) else f 38 (x1) (x2) (x3) ((5 : Int32)) ((0 : Int32)) r5.2))))))
def Ti_seen_t38 (f : Nat → Int32 → Int32 → Int32 → Int32 → Int32 → xH → Option (Int32 × xH)) (n : Nat) (o : Nat) (x1 : Int32) (x2 : Int32) (x3 : Int32) (x4 : Int32) (x5 : Int32) (h : xH) : Option (Int32 × xH) := obd (gq h (o) 4 0) (fun w7 => obd w7 (fun a12 => obd (gi h (a12) 3 3) (fun u13 => (if u13 ≤ x5 then some (((-2) : Int32), h) else obd (gq h (o) 4 0) (fun w19 => obd w19 (fun a24 => (if kc h (a24) 3 = true then obd (Ya_stateAt_f n (a24) (x5) h) (fun r25 => bnd (r25.1) (fun w26 => oel (w26) (f 38 (x1) (x2) (x3) (x4) (x5 + 1) r25.2) (fun a28 => (if kc r25.2 (a28) 2 = true then obd (St_fits_f n (a28) ((0 : Int32)) (x1) r25.2) (fun r30 => (if r30.1 = 0 then f 38 (x1) (x2) (x3) (x4) (x5 + 1) r30.2 else (if kc r30.2 (a28) 2 = true then obd (St_fits_f n (a28) ((1 : Int32)) (x2) r30.2) (fun r32 => (if r32.1 = 0 then f 38 (x1) (x2) (x3) (x4) (x5 + 1) r32.2 else (if kc r32.2 (a28) 2 = true then obd (St_fits_f n (a28) ((2 : Int32)) (x3) r32.2) (fun r34 => (if r34.1 = 0 then f 38 (x1) (x2) (x3) (x4) (x5 + 1) r34.2 else some (x5, r34.2))) else none))) else none))) else none)))) else none)))))))
def Ti_seen_f : Nat → Nat → Nat → Int32 → Int32 → Int32 → Int32 → Int32 → xH → Option (Int32 × xH)
  | 0 => fun _ _ _ _ _ _ _ _ => none
  | n + 1 => fun p o x1 x2 x3 x4 x5 h => if p = 0 then Ti_seen_t0 (fun p x1 x2 x3 x4 x5 h => Ti_seen_f n p o x1 x2 x3 x4 x5 h) n o x1 x2 x3 x4 x5 h else if p = 38 then Ti_seen_t38 (fun p x1 x2 x3 x4 x5 h => Ti_seen_f n p o x1 x2 x3 x4 x5 h) n o x1 x2 x3 x4 x5 h else none
theorem Ti_seen_e0 (n : Nat) (o : Nat) (x1 : Int32) (x2 : Int32) (x3 : Int32) (x4 : Int32) (x5 : Int32) (h : xH) : Ti_seen_f (n + 1) 0 o x1 x2 x3 x4 x5 h = Ti_seen_t0 (fun p x1 x2 x3 x4 x5 h => Ti_seen_f n p o x1 x2 x3 x4 x5 h) n o x1 x2 x3 x4 x5 h := by
  show (if 0 = 0 then Ti_seen_t0 (fun p x1 x2 x3 x4 x5 h => Ti_seen_f n p o x1 x2 x3 x4 x5 h) n o x1 x2 x3 x4 x5 h else if 0 = 38 then Ti_seen_t38 (fun p x1 x2 x3 x4 x5 h => Ti_seen_f n p o x1 x2 x3 x4 x5 h) n o x1 x2 x3 x4 x5 h else none) = _
  rw [if_pos rfl]
theorem Ti_seen_e38 (n : Nat) (o : Nat) (x1 : Int32) (x2 : Int32) (x3 : Int32) (x4 : Int32) (x5 : Int32) (h : xH) : Ti_seen_f (n + 1) 38 o x1 x2 x3 x4 x5 h = Ti_seen_t38 (fun p x1 x2 x3 x4 x5 h => Ti_seen_f n p o x1 x2 x3 x4 x5 h) n o x1 x2 x3 x4 x5 h := by
  show (if 38 = 0 then Ti_seen_t0 (fun p x1 x2 x3 x4 x5 h => Ti_seen_f n p o x1 x2 x3 x4 x5 h) n o x1 x2 x3 x4 x5 h else if 38 = 38 then Ti_seen_t38 (fun p x1 x2 x3 x4 x5 h => Ti_seen_f n p o x1 x2 x3 x4 x5 h) n o x1 x2 x3 x4 x5 h else none) = _
  rw [if_neg (by decide), if_pos rfl]
set_option maxRecDepth 100000 in
set_option maxHeartbeats 8000000 in
theorem Ti_seen_x {F : xF} {G : xG} {B sz : Nat} {o : Nat} (C : xC F G B cTi_seen RTi 7 1 22 0 0) (hr : (xFM F).sig.returnType = (some .int)) : ∀ (n : Nat) (x1 : Int32) (x2 : Int32) (x3 : Int32) (x4 : Int32) (x5 : Int32) (h : xH) (R : Int32 × xH), (Ti_seen_f n 0 o x1 x2 x3 x4 x5 h = some R → X F G B (xZ F G B (kP (some (.int R.1)) R.2 sz) 0 0) 7 h sz 0 0 0 [(0, .ref (o)), (1, .int (x1)), (2, .int (x2)), (3, .int (x3))] []) ∧ (Ti_seen_f n 38 o x1 x2 x3 x4 x5 h = some R → X F G B (xZ F G B (kP (some (.int R.1)) R.2 sz) 0 0) 7 h sz 0 0 38 [(0, .ref (o)), (1, .int (x1)), (2, .int (x2)), (3, .int (x3)), (4, .int (x4)), (5, .int (x5))] []) := by
  intro n
  induction n with
  | zero => exact fun _ _ _ _ _ _ _ => ⟨(fun hR => nomatch (show (none : Option _) = some _ from hR)), (fun hR => nomatch (show (none : Option _) = some _ from hR))⟩
  | succ n ih =>
    intro x1 x2 x3 x4 x5 h R
    refine ⟨fun hR => ?_, fun hR => ?_⟩
    · rw [Ti_seen_e0] at hR
      unfold Ti_seen_t0 at hR
      refine X_iconst (v := 5) C dTi_seen_0 rfl ?_
      refine X_istore (lv' := [(4, .int ((5 : Int32))), (0, .ref (o)), (1, .int (x1)), (2, .int (x2)), (3, .int (x3))]) C dTi_seen_1 (by decide) rfl ?_
      refine X_iload_n C dTi_seen_3 rfl ?_
      refine X_iconst (v := (-1)) C dTi_seen_4 rfl ?_
      refine X_iload C dTi_seen_5 rfl ?_
      have hq := o_bind hR
      clear hR
      obtain ⟨r1, hr1, hR⟩ := hq
      refine X_callSk (As := [.int (x1), .int (((-1) : Int32)), .int ((5 : Int32))]) (rest := []) C (Ti_isBetween_c hr1) wTi_71 ⟨by decide, by decide⟩ ⟨Nat.le_refl _, Nat.le_refl _⟩ rfl rfl (Nat.le_of_ble_eq_true rfl) dTi_seen_7 ?_
      show X F G B _ 7 (r1.2) _ _ _ _ _ [.int (r1.1)]
      refine X_if_eq (tgt := 33) C dTi_seen_10 (by decide) (fun c2 => ?_) (fun c2 => ?_)
      · rw [if_pos c2] at hR
        refine X_iconst (v := (-1)) C dTi_seen_33 rfl ?_
        rw [← Option.some.inj hR]
        exact X_iret C hr (Nat.le_refl _) (Nat.le_refl _) dTi_seen_34 ⟨rfl, rfl, rfl⟩
      · rw [if_neg c2] at hR
        refine X_iload_n C dTi_seen_13 rfl ?_
        refine X_iconst (v := (-1)) C dTi_seen_14 rfl ?_
        refine X_iload C dTi_seen_15 rfl ?_
        have hq := o_bind hR
        clear hR
        obtain ⟨r3, hr3, hR⟩ := hq
        refine X_callSk (As := [.int (x2), .int (((-1) : Int32)), .int ((5 : Int32))]) (rest := []) C (Ti_isBetween_c hr3) wTi_71 ⟨by decide, by decide⟩ ⟨Nat.le_refl _, Nat.le_refl _⟩ rfl rfl (Nat.le_of_ble_eq_true rfl) dTi_seen_17 ?_
        show X F G B _ 7 (r3.2) _ _ _ _ _ [.int (r3.1)]
        refine X_if_eq (tgt := 33) C dTi_seen_20 (by decide) (fun c4 => ?_) (fun c4 => ?_)
        · rw [if_pos c4] at hR
          refine X_iconst (v := (-1)) C dTi_seen_33 rfl ?_
          rw [← Option.some.inj hR]
          exact X_iret C hr (Nat.le_refl _) (Nat.le_refl _) dTi_seen_34 ⟨rfl, rfl, rfl⟩
        · rw [if_neg c4] at hR
          refine X_iload_n C dTi_seen_23 rfl ?_
          refine X_iconst (v := (-1)) C dTi_seen_24 rfl ?_
          refine X_iload C dTi_seen_25 rfl ?_
          have hq := o_bind hR
          clear hR
          obtain ⟨r5, hr5, hR⟩ := hq
          refine X_callSk (As := [.int (x3), .int (((-1) : Int32)), .int ((5 : Int32))]) (rest := []) C (Ti_isBetween_c hr5) wTi_71 ⟨by decide, by decide⟩ ⟨Nat.le_refl _, Nat.le_refl _⟩ rfl rfl (Nat.le_of_ble_eq_true rfl) dTi_seen_27 ?_
          show X F G B _ 7 (r5.2) _ _ _ _ _ [.int (r5.1)]
          refine X_if_ne (tgt := 35) C dTi_seen_30 (by decide) (fun c6 => ?_) (fun c6 => ?_)
          · rw [if_neg c6] at hR
            refine X_iconst (v := 0) C dTi_seen_35 rfl ?_
            refine X_istore (lv' := [(5, .int ((0 : Int32))), (4, .int ((5 : Int32))), (0, .ref (o)), (1, .int (x1)), (2, .int (x2)), (3, .int (x3))]) C dTi_seen_36 (by decide) rfl ?_
            refine X_sub (lv' := [(0, .ref (o)), (1, .int (x1)), (2, .int (x2)), (3, .int (x3)), (4, .int ((5 : Int32))), (5, .int ((0 : Int32)))]) [2, 3, 4, 5, 1, 0] rfl ?_
            exact (ih (x1) (x2) (x3) ((5 : Int32)) ((0 : Int32)) _ _).2 hR
          · rw [if_pos c6] at hR
            refine X_iconst (v := (-1)) C dTi_seen_33 rfl ?_
            rw [← Option.some.inj hR]
            exact X_iret C hr (Nat.le_refl _) (Nat.le_refl _) dTi_seen_34 ⟨rfl, rfl, rfl⟩
    · rw [Ti_seen_e38] at hR
      unfold Ti_seen_t38 at hR
      refine X_iload C dTi_seen_38 rfl ?_
      refine X_aload_n C dTi_seen_40 rfl ?_
      have hq := o_bind hR
      clear hR
      obtain ⟨w7, hx11, hR⟩ := hq
      obtain ⟨fs8, he9, hv10⟩ := gq_e hx11
      refine X_get (k := 0) C oTi fwTi_10 he9 hv10 dTi_seen_41 ?_
      have hq := o_bind hR
      clear hR
      obtain ⟨a12, rfl, hR⟩ := hq
      have hq := o_bind hR
      clear hR
      obtain ⟨u13, hx17, hR⟩ := hq
      obtain ⟨fs14, he15, hv16⟩ := gi_e hx17
      refine X_get (k := 3) C oYa fwTi_129 he15 hv16 dTi_seen_44 ?_
      refine X_icmp_ge (tgt := 105) C dTi_seen_47 (by decide) (fun c18 => ?_) (fun c18 => ?_)
      · rw [if_pos c18] at hR
        refine X_bipush (v := (-2)) C dTi_seen_105 (by decide) ?_
        rw [← Option.some.inj hR]
        exact X_iret C hr (Nat.le_refl _) (Nat.le_refl _) dTi_seen_107 ⟨rfl, rfl, rfl⟩
      · rw [if_neg c18] at hR
        refine X_aload_n C dTi_seen_50 rfl ?_
        have hq := o_bind hR
        clear hR
        obtain ⟨w19, hx23, hR⟩ := hq
        obtain ⟨fs20, he21, hv22⟩ := gq_e hx23
        refine X_get (k := 0) C oTi fwTi_10 he21 hv22 dTi_seen_51 ?_
        refine X_iload C dTi_seen_54 rfl ?_
        have hq := o_bind hR
        clear hR
        obtain ⟨a24, rfl, hR⟩ := hq
        have hq := o_if hR
        clear hR
        obtain ⟨k45, hR⟩ := hq
        obtain ⟨fs46, he47⟩ := kc_e k45
        have hq := o_bind hR
        clear hR
        obtain ⟨r25, hr25, hR⟩ := hq
        refine X_callVk (As := [.int (x5)]) (rest := []) C (Ya_stateAt_c hr25) wTi_121 ⟨by decide, by decide⟩ ⟨Nat.le_refl _, Nat.le_refl _⟩ he47 oYa.2.1 rfl rfl (Nat.le_of_ble_eq_true rfl) dTi_seen_56 ?_
        show X F G B _ 7 (r25.2) _ _ _ _ _ [va_rf (r25.1)]
        have hq := b_bnd hR
        clear hR
        obtain ⟨w26, e27, hR⟩ := hq
        rw [← e27]
        refine X_astoreq (lv' := [(6, va_rf (w26)), (0, .ref (o)), (1, .int (x1)), (2, .int (x2)), (3, .int (x3)), (4, .int (x4)), (5, .int (x5))]) C dTi_seen_59 (by decide) rfl ?_
        refine X_aloadq C dTi_seen_61 rfl ?_
        refine X_ifnullq (tgt := 99) C dTi_seen_63 (by decide) (fun e29 => ?_) (fun a28 e29 => ?_)
        · subst e29
          rw [oel_n] at hR
          refine X_iinc (v := x5 + 1) (lv' := [(5, .int (x5 + 1)), (6, .null), (0, .ref (o)), (1, .int (x1)), (2, .int (x2)), (3, .int (x3)), (4, .int (x4))]) C dTi_seen_99 rfl rfl (by decide) rfl ?_
          refine X_goto (tgt := 38) C dTi_seen_102 (by decide) ?_
          refine X_sub (lv' := [(0, .ref (o)), (1, .int (x1)), (2, .int (x2)), (3, .int (x3)), (4, .int (x4)), (5, .int (x5 + 1))]) [2, 3, 4, 5, 6, 0] rfl ?_
          exact (ih (x1) (x2) (x3) (x4) (x5 + 1) _ _).2 hR
        · subst e29
          rw [oel_s] at hR
          refine X_aload C dTi_seen_66 rfl ?_
          refine X_iconst (v := 0) C dTi_seen_68 rfl ?_
          refine X_iload_n C dTi_seen_69 rfl ?_
          have hq := o_if hR
          clear hR
          obtain ⟨k42, hR⟩ := hq
          obtain ⟨fs43, he44⟩ := kc_e k42
          have hq := o_bind hR
          clear hR
          obtain ⟨r30, hr30, hR⟩ := hq
          refine X_callVk (As := [.int ((0 : Int32)), .int (x1)]) (rest := []) C (St_fits_c hr30) wTi_165 ⟨by decide, by decide⟩ ⟨Nat.le_refl _, Nat.le_refl _⟩ he44 oSt.2.1 rfl rfl (Nat.le_of_ble_eq_true rfl) dTi_seen_70 ?_
          show X F G B _ 7 (r30.2) _ _ _ _ _ [.int (r30.1)]
          refine X_if_eq (tgt := 99) C dTi_seen_73 (by decide) (fun c31 => ?_) (fun c31 => ?_)
          · rw [if_pos c31] at hR
            refine X_iinc (v := x5 + 1) (lv' := [(5, .int (x5 + 1)), (6, .ref (a28)), (0, .ref (o)), (1, .int (x1)), (2, .int (x2)), (3, .int (x3)), (4, .int (x4))]) C dTi_seen_99 rfl rfl (by decide) rfl ?_
            refine X_goto (tgt := 38) C dTi_seen_102 (by decide) ?_
            refine X_sub (lv' := [(0, .ref (o)), (1, .int (x1)), (2, .int (x2)), (3, .int (x3)), (4, .int (x4)), (5, .int (x5 + 1))]) [2, 3, 4, 5, 6, 0] rfl ?_
            exact (ih (x1) (x2) (x3) (x4) (x5 + 1) _ _).2 hR
          · rw [if_neg c31] at hR
            refine X_aload C dTi_seen_76 rfl ?_
            refine X_iconst (v := 1) C dTi_seen_78 rfl ?_
            refine X_iload_n C dTi_seen_79 rfl ?_
            have hq := o_if hR
            clear hR
            obtain ⟨k39, hR⟩ := hq
            obtain ⟨fs40, he41⟩ := kc_e k39
            have hq := o_bind hR
            clear hR
            obtain ⟨r32, hr32, hR⟩ := hq
            refine X_callVk (As := [.int ((1 : Int32)), .int (x2)]) (rest := []) C (St_fits_c hr32) wTi_165 ⟨by decide, by decide⟩ ⟨Nat.le_refl _, Nat.le_refl _⟩ he41 oSt.2.1 rfl rfl (Nat.le_of_ble_eq_true rfl) dTi_seen_80 ?_
            show X F G B _ 7 (r32.2) _ _ _ _ _ [.int (r32.1)]
            refine X_if_eq (tgt := 99) C dTi_seen_83 (by decide) (fun c33 => ?_) (fun c33 => ?_)
            · rw [if_pos c33] at hR
              refine X_iinc (v := x5 + 1) (lv' := [(5, .int (x5 + 1)), (6, .ref (a28)), (0, .ref (o)), (1, .int (x1)), (2, .int (x2)), (3, .int (x3)), (4, .int (x4))]) C dTi_seen_99 rfl rfl (by decide) rfl ?_
              refine X_goto (tgt := 38) C dTi_seen_102 (by decide) ?_
              refine X_sub (lv' := [(0, .ref (o)), (1, .int (x1)), (2, .int (x2)), (3, .int (x3)), (4, .int (x4)), (5, .int (x5 + 1))]) [2, 3, 4, 5, 6, 0] rfl ?_
              exact (ih (x1) (x2) (x3) (x4) (x5 + 1) _ _).2 hR
            · rw [if_neg c33] at hR
              refine X_aload C dTi_seen_86 rfl ?_
              refine X_iconst (v := 2) C dTi_seen_88 rfl ?_
              refine X_iload_n C dTi_seen_89 rfl ?_
              have hq := o_if hR
              clear hR
              obtain ⟨k36, hR⟩ := hq
              obtain ⟨fs37, he38⟩ := kc_e k36
              have hq := o_bind hR
              clear hR
              obtain ⟨r34, hr34, hR⟩ := hq
              refine X_callVk (As := [.int ((2 : Int32)), .int (x3)]) (rest := []) C (St_fits_c hr34) wTi_165 ⟨by decide, by decide⟩ ⟨Nat.le_refl _, Nat.le_refl _⟩ he38 oSt.2.1 rfl rfl (Nat.le_of_ble_eq_true rfl) dTi_seen_90 ?_
              show X F G B _ 7 (r34.2) _ _ _ _ _ [.int (r34.1)]
              refine X_if_eq (tgt := 99) C dTi_seen_93 (by decide) (fun c35 => ?_) (fun c35 => ?_)
              · rw [if_pos c35] at hR
                refine X_iinc (v := x5 + 1) (lv' := [(5, .int (x5 + 1)), (6, .ref (a28)), (0, .ref (o)), (1, .int (x1)), (2, .int (x2)), (3, .int (x3)), (4, .int (x4))]) C dTi_seen_99 rfl rfl (by decide) rfl ?_
                refine X_goto (tgt := 38) C dTi_seen_102 (by decide) ?_
                refine X_sub (lv' := [(0, .ref (o)), (1, .int (x1)), (2, .int (x2)), (3, .int (x3)), (4, .int (x4)), (5, .int (x5 + 1))]) [2, 3, 4, 5, 6, 0] rfl ?_
                exact (ih (x1) (x2) (x3) (x4) (x5 + 1) _ _).2 hR
              · rw [if_neg c35] at hR
                refine X_iload C dTi_seen_96 rfl ?_
                rw [← Option.some.inj hR]
                exact X_iret C hr (Nat.le_refl _) (Nat.le_refl _) dTi_seen_98 ⟨rfl, rfl, rfl⟩
theorem Ti_seen_c {l : Launch} {G : xG} {B sz : Nat} {o : Nat} {n : Nat} {x1 : Int32} {x2 : Int32} {x3 : Int32} {h : xH} {R : Int32 × xH} (hR : Ti_seen_f n 0 o x1 x2 x3 0 0 h = some R) : xCon l yTi_seen cTi_seen 7 (some .int) 1 22 0 0 G B [.ref (o), .int (x1), .int (x2), .int (x3)] h sz (kP (some (.int R.1)) R.2 sz) := xCon.of (by decide) (by exact Nat.le_of_ble_eq_true rfl) (fun F e C hr hnm => X_sub (lv' := [(0, .ref (o)), (1, .int (x1)), (2, .int (x2)), (3, .int (x3))]) [0, 1, 2, 3] rfl ((Ti_seen_x C hr n x1 x2 x3 0 0 h R).1 hR))
def Ti_lead_t0 (f : Nat → Int32 → Int32 → Int32 → Option Nat → Int32 → xH → Option (Int32 × xH)) (n : Nat) (o : Nat) (x1 : Int32) (x2 : Int32) (x3 : Int32) (y4 : Option Nat) (x5 : Int32) (h : xH) : Option (Int32 × xH) := obd (gq h (o) 4 0) (fun w1 => obd w1 (fun a6 => (if kc h (a6) 3 = true then obd (Ya_stateAt_f n (a6) (x1) h) (fun r7 => bnd (r7.1) (fun w8 => oel (w8) (some (((-1) : Int32), r7.2)) (fun a10 => (if x2 < 0 then some (((-1) : Int32), r7.2) else obd (gi r7.2 (a10) 2 9) (fun u13 => (if u13 ≤ x2 then some (((-1) : Int32), r7.2) else obd (Ti_isBetween_f n (x3) ((0 : Int32)) ((3 : Int32)) r7.2) (fun r19 => (if r19.1 = 0 then some (((-1) : Int32), r19.2) else obd (gi r19.2 (a10) 2 9) (fun u21 => f 48 (x1) (x2) (x3) (some (a10)) ((u21) - ((1 : Int32))) r19.2))))))))) else none)))
def Ti_lead_t48 (f : Nat → Int32 → Int32 → Int32 → Option Nat → Int32 → xH → Option (Int32 × xH)) (n : Nat) (o : Nat) (x1 : Int32) (x2 : Int32) (x3 : Int32) (y4 : Option Nat) (x5 : Int32) (h : xH) : Option (Int32 × xH) := (if x5 ≤ x2 then oel (y4) (some (((-1) : Int32), h)) (fun a30 => obd (gq h (a30) 2 2) (fun w32 => obd w32 (fun a37 => obd (ai h (a37) 0 (x3)) (fun u38 => some (u38, h))))) else oel (y4) (some (((-1) : Int32), h)) (fun a45 => obd (gq h (o) 4 0) (fun w47 => obd (gi h (a45) 2 5) (fun u52 => obd w47 (fun a57 => (if kc h (a57) 3 = true then obd (Ya_stateAt_f n (a57) (u52) h) (fun r58 => bnd (r58.1) (fun w59 => f 48 (x1) (x2) (x3) (w59) (x5 + (-1)) r58.2)) else none))))))
def Ti_lead_f : Nat → Nat → Nat → Int32 → Int32 → Int32 → Option Nat → Int32 → xH → Option (Int32 × xH)
  | 0 => fun _ _ _ _ _ _ _ _ => none
  | n + 1 => fun p o x1 x2 x3 y4 x5 h => if p = 0 then Ti_lead_t0 (fun p x1 x2 x3 y4 x5 h => Ti_lead_f n p o x1 x2 x3 y4 x5 h) n o x1 x2 x3 y4 x5 h else if p = 48 then Ti_lead_t48 (fun p x1 x2 x3 y4 x5 h => Ti_lead_f n p o x1 x2 x3 y4 x5 h) n o x1 x2 x3 y4 x5 h else none
theorem Ti_lead_e0 (n : Nat) (o : Nat) (x1 : Int32) (x2 : Int32) (x3 : Int32) (y4 : Option Nat) (x5 : Int32) (h : xH) : Ti_lead_f (n + 1) 0 o x1 x2 x3 y4 x5 h = Ti_lead_t0 (fun p x1 x2 x3 y4 x5 h => Ti_lead_f n p o x1 x2 x3 y4 x5 h) n o x1 x2 x3 y4 x5 h := by
  show (if 0 = 0 then Ti_lead_t0 (fun p x1 x2 x3 y4 x5 h => Ti_lead_f n p o x1 x2 x3 y4 x5 h) n o x1 x2 x3 y4 x5 h else if 0 = 48 then Ti_lead_t48 (fun p x1 x2 x3 y4 x5 h => Ti_lead_f n p o x1 x2 x3 y4 x5 h) n o x1 x2 x3 y4 x5 h else none) = _
  rw [if_pos rfl]
theorem Ti_lead_e48 (n : Nat) (o : Nat) (x1 : Int32) (x2 : Int32) (x3 : Int32) (y4 : Option Nat) (x5 : Int32) (h : xH) : Ti_lead_f (n + 1) 48 o x1 x2 x3 y4 x5 h = Ti_lead_t48 (fun p x1 x2 x3 y4 x5 h => Ti_lead_f n p o x1 x2 x3 y4 x5 h) n o x1 x2 x3 y4 x5 h := by
  show (if 48 = 0 then Ti_lead_t0 (fun p x1 x2 x3 y4 x5 h => Ti_lead_f n p o x1 x2 x3 y4 x5 h) n o x1 x2 x3 y4 x5 h else if 48 = 48 then Ti_lead_t48 (fun p x1 x2 x3 y4 x5 h => Ti_lead_f n p o x1 x2 x3 y4 x5 h) n o x1 x2 x3 y4 x5 h else none) = _
  rw [if_neg (by decide), if_pos rfl]
set_option maxRecDepth 100000 in
set_option maxHeartbeats 8000000 in
theorem Ti_lead_x {F : xF} {G : xG} {B sz : Nat} {o : Nat} (C : xC F G B cTi_lead RTi 6 1 22 0 0) (hr : (xFM F).sig.returnType = (some .int)) : ∀ (n : Nat) (x1 : Int32) (x2 : Int32) (x3 : Int32) (y4 : Option Nat) (x5 : Int32) (h : xH) (R : Int32 × xH), (Ti_lead_f n 0 o x1 x2 x3 y4 x5 h = some R → X F G B (xZ F G B (kP (some (.int R.1)) R.2 sz) 0 0) 6 h sz 0 0 0 [(0, .ref (o)), (1, .int (x1)), (2, .int (x2)), (3, .int (x3))] []) ∧ (Ti_lead_f n 48 o x1 x2 x3 y4 x5 h = some R → X F G B (xZ F G B (kP (some (.int R.1)) R.2 sz) 0 0) 6 h sz 0 0 48 [(0, .ref (o)), (1, .int (x1)), (2, .int (x2)), (3, .int (x3)), (4, va_rf (y4)), (5, .int (x5))] []) := by
  intro n
  induction n with
  | zero => exact fun _ _ _ _ _ _ _ => ⟨(fun hR => nomatch (show (none : Option _) = some _ from hR)), (fun hR => nomatch (show (none : Option _) = some _ from hR))⟩
  | succ n ih =>
    intro x1 x2 x3 y4 x5 h R
    refine ⟨fun hR => ?_, fun hR => ?_⟩
    · rw [Ti_lead_e0] at hR
      unfold Ti_lead_t0 at hR
      refine X_aload_n C dTi_lead_0 rfl ?_
      have hq := o_bind hR
      clear hR
      obtain ⟨w1, hx5, hR⟩ := hq
      obtain ⟨fs2, he3, hv4⟩ := gq_e hx5
      refine X_get (k := 0) C oTi fwTi_10 he3 hv4 dTi_lead_1 ?_
      refine X_iload_n C dTi_lead_4 rfl ?_
      have hq := o_bind hR
      clear hR
      obtain ⟨a6, rfl, hR⟩ := hq
      have hq := o_if hR
      clear hR
      obtain ⟨k26, hR⟩ := hq
      obtain ⟨fs27, he28⟩ := kc_e k26
      have hq := o_bind hR
      clear hR
      obtain ⟨r7, hr7, hR⟩ := hq
      refine X_callVk (As := [.int (x1)]) (rest := []) C (Ya_stateAt_c hr7) wTi_121 ⟨by decide, by decide⟩ ⟨Nat.le_refl _, Nat.le_refl _⟩ he28 oYa.2.1 rfl rfl (Nat.le_of_ble_eq_true rfl) dTi_lead_5 ?_
      show X F G B _ 6 (r7.2) _ _ _ _ _ [va_rf (r7.1)]
      have hq := b_bnd hR
      clear hR
      obtain ⟨w8, e9, hR⟩ := hq
      rw [← e9]
      refine X_astoreq (lv' := [(4, va_rf (w8)), (0, .ref (o)), (1, .int (x1)), (2, .int (x2)), (3, .int (x3))]) C dTi_lead_8 (by decide) rfl ?_
      refine X_aloadq C dTi_lead_10 rfl ?_
      refine X_ifnullq (tgt := 37) C dTi_lead_12 (by decide) (fun e11 => ?_) (fun a10 e11 => ?_)
      · subst e11
        rw [oel_n] at hR
        refine X_iconst (v := (-1)) C dTi_lead_37 rfl ?_
        rw [← Option.some.inj hR]
        exact X_iret C hr (Nat.le_refl _) (Nat.le_refl _) dTi_lead_38 ⟨rfl, rfl, rfl⟩
      · subst e11
        rw [oel_s] at hR
        refine X_iload_n C dTi_lead_15 rfl ?_
        refine X_if_lt (tgt := 37) C dTi_lead_16 (by decide) (fun c12 => ?_) (fun c12 => ?_)
        · rw [if_pos c12] at hR
          refine X_iconst (v := (-1)) C dTi_lead_37 rfl ?_
          rw [← Option.some.inj hR]
          exact X_iret C hr (Nat.le_refl _) (Nat.le_refl _) dTi_lead_38 ⟨rfl, rfl, rfl⟩
        · rw [if_neg c12] at hR
          refine X_iload_n C dTi_lead_19 rfl ?_
          refine X_aload C dTi_lead_20 rfl ?_
          have hq := o_bind hR
          clear hR
          obtain ⟨u13, hx17, hR⟩ := hq
          obtain ⟨fs14, he15, hv16⟩ := gi_e hx17
          refine X_get (k := 9) C oSt fwTi_148 he15 hv16 dTi_lead_22 ?_
          refine X_icmp_ge (tgt := 37) C dTi_lead_25 (by decide) (fun c18 => ?_) (fun c18 => ?_)
          · rw [if_pos c18] at hR
            refine X_iconst (v := (-1)) C dTi_lead_37 rfl ?_
            rw [← Option.some.inj hR]
            exact X_iret C hr (Nat.le_refl _) (Nat.le_refl _) dTi_lead_38 ⟨rfl, rfl, rfl⟩
          · rw [if_neg c18] at hR
            refine X_iload_n C dTi_lead_28 rfl ?_
            refine X_iconst (v := 0) C dTi_lead_29 rfl ?_
            refine X_iconst (v := 3) C dTi_lead_30 rfl ?_
            have hq := o_bind hR
            clear hR
            obtain ⟨r19, hr19, hR⟩ := hq
            refine X_callSk (As := [.int (x3), .int ((0 : Int32)), .int ((3 : Int32))]) (rest := []) C (Ti_isBetween_c hr19) wTi_71 ⟨by decide, by decide⟩ ⟨Nat.le_refl _, Nat.le_refl _⟩ rfl rfl (Nat.le_of_ble_eq_true rfl) dTi_lead_31 ?_
            show X F G B _ 6 (r19.2) _ _ _ _ _ [.int (r19.1)]
            refine X_if_ne (tgt := 39) C dTi_lead_34 (by decide) (fun c20 => ?_) (fun c20 => ?_)
            · rw [if_neg c20] at hR
              refine X_aload C dTi_lead_39 rfl ?_
              have hq := o_bind hR
              clear hR
              obtain ⟨u21, hx25, hR⟩ := hq
              obtain ⟨fs22, he23, hv24⟩ := gi_e hx25
              refine X_get (k := 9) C oSt fwTi_148 he23 hv24 dTi_lead_41 ?_
              refine X_iconst (v := 1) C dTi_lead_44 rfl ?_
              refine X_isub C dTi_lead_45 ?_
              refine X_istore (lv' := [(5, .int ((u21) - ((1 : Int32)))), (4, .ref (a10)), (0, .ref (o)), (1, .int (x1)), (2, .int (x2)), (3, .int (x3))]) C dTi_lead_46 (by decide) rfl ?_
              refine X_sub (lv' := [(0, .ref (o)), (1, .int (x1)), (2, .int (x2)), (3, .int (x3)), (4, va_rf ((some (a10)))), (5, .int ((u21) - ((1 : Int32))))]) [2, 3, 4, 5, 1, 0] rfl ?_
              exact (ih (x1) (x2) (x3) (some (a10)) ((u21) - ((1 : Int32))) _ _).2 hR
            · rw [if_pos c20] at hR
              refine X_iconst (v := (-1)) C dTi_lead_37 rfl ?_
              rw [← Option.some.inj hR]
              exact X_iret C hr (Nat.le_refl _) (Nat.le_refl _) dTi_lead_38 ⟨rfl, rfl, rfl⟩
    · rw [Ti_lead_e48] at hR
      unfold Ti_lead_t48 at hR
      refine X_iload C dTi_lead_48 rfl ?_
      refine X_iload_n C dTi_lead_50 rfl ?_
      refine X_icmp_le (tgt := 79) C dTi_lead_51 (by decide) (fun c29 => ?_) (fun c29 => ?_)
      · rw [if_pos c29] at hR
        refine X_aloadq C dTi_lead_79 rfl ?_
        refine X_ifnonnullq (tgt := 88) C dTi_lead_81 (by decide) (fun a30 e31 => ?_) (fun e31 => ?_)
        · subst e31
          rw [oel_s] at hR
          refine X_aload C dTi_lead_88 rfl ?_
          have hq := o_bind hR
          clear hR
          obtain ⟨w32, hx36, hR⟩ := hq
          obtain ⟨fs33, he34, hv35⟩ := gq_e hx36
          refine X_get (k := 2) C oSt fwTi_169 he34 hv35 dTi_lead_90 ?_
          refine X_iload_n C dTi_lead_93 rfl ?_
          have hq := o_bind hR
          clear hR
          obtain ⟨a37, rfl, hR⟩ := hq
          have hq := o_bind hR
          clear hR
          obtain ⟨u38, hx39, hR⟩ := hq
          obtain ⟨n40, f41, he42, hi43, e44⟩ := ai_e hx39
          refine X_iald C rfl he42 hi43 dTi_lead_94 ?_
          rw [← e44]
          rw [← Option.some.inj hR]
          exact X_iret C hr (Nat.le_refl _) (Nat.le_refl _) dTi_lead_95 ⟨rfl, rfl, rfl⟩
        · subst e31
          rw [oel_n] at hR
          refine X_iconst (v := (-1)) C dTi_lead_84 rfl ?_
          refine X_goto (tgt := 95) C dTi_lead_85 (by decide) ?_
          rw [← Option.some.inj hR]
          exact X_iret C hr (Nat.le_refl _) (Nat.le_refl _) dTi_lead_95 ⟨rfl, rfl, rfl⟩
      · rw [if_neg c29] at hR
        refine X_aloadq C dTi_lead_54 rfl ?_
        refine X_ifnullq (tgt := 79) C dTi_lead_56 (by decide) (fun e46 => ?_) (fun a45 e46 => ?_)
        · subst e46
          rw [oel_n] at hR
          refine X_aloadN C dTi_lead_79 rfl ?_
          refine X_ifnonnullN C dTi_lead_81 ?_
          refine X_iconst (v := (-1)) C dTi_lead_84 rfl ?_
          refine X_goto (tgt := 95) C dTi_lead_85 (by decide) ?_
          rw [← Option.some.inj hR]
          exact X_iret C hr (Nat.le_refl _) (Nat.le_refl _) dTi_lead_95 ⟨rfl, rfl, rfl⟩
        · subst e46
          rw [oel_s] at hR
          refine X_aload_n C dTi_lead_59 rfl ?_
          have hq := o_bind hR
          clear hR
          obtain ⟨w47, hx51, hR⟩ := hq
          obtain ⟨fs48, he49, hv50⟩ := gq_e hx51
          refine X_get (k := 0) C oTi fwTi_10 he49 hv50 dTi_lead_60 ?_
          refine X_aload C dTi_lead_63 rfl ?_
          have hq := o_bind hR
          clear hR
          obtain ⟨u52, hx56, hR⟩ := hq
          obtain ⟨fs53, he54, hv55⟩ := gi_e hx56
          refine X_get (k := 5) C oSt fwTi_136 he54 hv55 dTi_lead_65 ?_
          have hq := o_bind hR
          clear hR
          obtain ⟨a57, rfl, hR⟩ := hq
          have hq := o_if hR
          clear hR
          obtain ⟨k61, hR⟩ := hq
          obtain ⟨fs62, he63⟩ := kc_e k61
          have hq := o_bind hR
          clear hR
          obtain ⟨r58, hr58, hR⟩ := hq
          refine X_callVk (As := [.int (u52)]) (rest := []) C (Ya_stateAt_c hr58) wTi_121 ⟨by decide, by decide⟩ ⟨Nat.le_refl _, Nat.le_refl _⟩ he63 oYa.2.1 rfl rfl (Nat.le_of_ble_eq_true rfl) dTi_lead_68 ?_
          show X F G B _ 6 (r58.2) _ _ _ _ _ [va_rf (r58.1)]
          have hq := b_bnd hR
          clear hR
          obtain ⟨w59, e60, hR⟩ := hq
          rw [← e60]
          refine X_astoreq (lv' := [(4, va_rf (w59)), (0, .ref (o)), (1, .int (x1)), (2, .int (x2)), (3, .int (x3)), (5, .int (x5))]) C dTi_lead_71 (by decide) rfl ?_
          refine X_iinc (v := x5 + (-1)) (lv' := [(5, .int (x5 + (-1))), (4, va_rf (w59)), (0, .ref (o)), (1, .int (x1)), (2, .int (x2)), (3, .int (x3))]) C dTi_lead_73 rfl rfl (by decide) (by simp [rf_cat, cat_i, cat_r, cat_l, rf_n, rf_s] <;> decide) ?_
          refine X_goto (tgt := 48) C dTi_lead_76 (by decide) ?_
          refine X_sub (lv' := [(0, .ref (o)), (1, .int (x1)), (2, .int (x2)), (3, .int (x3)), (4, va_rf ((w59))), (5, .int (x5 + (-1)))]) [2, 3, 4, 5, 1, 0] rfl ?_
          exact (ih (x1) (x2) (x3) (w59) (x5 + (-1)) _ _).2 hR
theorem Ti_lead_c {l : Launch} {G : xG} {B sz : Nat} {o : Nat} {n : Nat} {x1 : Int32} {x2 : Int32} {x3 : Int32} {h : xH} {R : Int32 × xH} (hR : Ti_lead_f n 0 o x1 x2 x3 none 0 h = some R) : xCon l yTi_lead cTi_lead 6 (some .int) 1 22 0 0 G B [.ref (o), .int (x1), .int (x2), .int (x3)] h sz (kP (some (.int R.1)) R.2 sz) := xCon.of (by decide) (by exact Nat.le_of_ble_eq_true rfl) (fun F e C hr hnm => X_sub (lv' := [(0, .ref (o)), (1, .int (x1)), (2, .int (x2)), (3, .int (x3))]) [0, 1, 2, 3] rfl ((Ti_lead_x C hr n x1 x2 x3 none 0 h R).1 hR))
def Ti_soonest_f (n : Nat) (o : Nat) (x1 : Int32) (h : xH) : Option (Int32 × xH) := obd (gq h (o) 4 0) (fun w1 => obd w1 (fun a6 => (if kc h (a6) 3 = true then obd (Ya_stateAt_f n (a6) (x1) h) (fun r7 => bnd (r7.1) (fun w8 => oel (w8) (some (((-1) : Int32), r7.2)) (fun a10 => obd (gi r7.2 (a10) 2 10) (fun u12 => some (u12, r7.2))))) else none)))
set_option maxRecDepth 100000 in
set_option maxHeartbeats 8000000 in
theorem Ti_soonest_x {F : xF} {G : xG} {B sz : Nat} {o : Nat} (C : xC F G B cTi_soonest RTi 3 1 21 0 0) (hr : (xFM F).sig.returnType = (some .int)) {n : Nat} {x1 : Int32} {h : xH} {R : Int32 × xH} (hR : Ti_soonest_f n o x1 h = some R) : X F G B (xZ F G B (kP (some (.int R.1)) R.2 sz) 0 0) 3 h sz 0 0 0 [(0, .ref (o)), (1, .int (x1))] [] := by
  unfold Ti_soonest_f at hR
  refine X_aload_n C dTi_soonest_0 rfl ?_
  have hq := o_bind hR
  clear hR
  obtain ⟨w1, hx5, hR⟩ := hq
  obtain ⟨fs2, he3, hv4⟩ := gq_e hx5
  refine X_get (k := 0) C oTi fwTi_10 he3 hv4 dTi_soonest_1 ?_
  refine X_iload_n C dTi_soonest_4 rfl ?_
  have hq := o_bind hR
  clear hR
  obtain ⟨a6, rfl, hR⟩ := hq
  have hq := o_if hR
  clear hR
  obtain ⟨k17, hR⟩ := hq
  obtain ⟨fs18, he19⟩ := kc_e k17
  have hq := o_bind hR
  clear hR
  obtain ⟨r7, hr7, hR⟩ := hq
  refine X_callVk (As := [.int (x1)]) (rest := []) C (Ya_stateAt_c hr7) wTi_121 ⟨by decide, by decide⟩ ⟨Nat.le_refl _, Nat.le_refl _⟩ he19 oYa.2.1 rfl rfl (Nat.le_of_ble_eq_true rfl) dTi_soonest_5 ?_
  show X F G B _ 3 (r7.2) _ _ _ _ _ [va_rf (r7.1)]
  have hq := b_bnd hR
  clear hR
  obtain ⟨w8, e9, hR⟩ := hq
  rw [← e9]
  refine X_astore_nq (lv' := [(2, va_rf (w8)), (0, .ref (o)), (1, .int (x1))]) C dTi_soonest_8 (by decide) rfl ?_
  refine X_aload_nq C dTi_soonest_9 rfl ?_
  refine X_ifnonnullq (tgt := 17) C dTi_soonest_10 (by decide) (fun a10 e11 => ?_) (fun e11 => ?_)
  · subst e11
    rw [oel_s] at hR
    refine X_aload_n C dTi_soonest_17 rfl ?_
    have hq := o_bind hR
    clear hR
    obtain ⟨u12, hx16, hR⟩ := hq
    obtain ⟨fs13, he14, hv15⟩ := gi_e hx16
    refine X_get (k := 10) C oSt fwTi_172 he14 hv15 dTi_soonest_18 ?_
    rw [← Option.some.inj hR]
    exact X_iret C hr (Nat.le_refl _) (Nat.le_refl _) dTi_soonest_21 ⟨rfl, rfl, rfl⟩
  · subst e11
    rw [oel_n] at hR
    refine X_iconst (v := (-1)) C dTi_soonest_13 rfl ?_
    refine X_goto (tgt := 21) C dTi_soonest_14 (by decide) ?_
    rw [← Option.some.inj hR]
    exact X_iret C hr (Nat.le_refl _) (Nat.le_refl _) dTi_soonest_21 ⟨rfl, rfl, rfl⟩
theorem Ti_soonest_c {l : Launch} {G : xG} {B sz : Nat} {o : Nat} {n : Nat} {x1 : Int32} {h : xH} {R : Int32 × xH} (hR : Ti_soonest_f n o x1 h = some R) : xCon l yTi_soonest cTi_soonest 3 (some .int) 1 21 0 0 G B [.ref (o), .int (x1)] h sz (kP (some (.int R.1)) R.2 sz) := xCon.of (by decide) (by exact Nat.le_of_ble_eq_true rfl) (fun F e C hr hnm => X_sub (lv' := [(0, .ref (o)), (1, .int (x1))]) [0, 1] rfl (Ti_soonest_x C hr hR))
def Ti_stuck_f (n : Nat) (o : Nat) (x1 : Int32) (h : xH) : Option (Int32 × xH) := obd (gq h (o) 4 0) (fun w1 => obd w1 (fun a6 => (if kc h (a6) 3 = true then obd (Ya_stateAt_f n (a6) (x1) h) (fun r7 => bnd (r7.1) (fun w8 => oel (w8) (some (((-1) : Int32), r7.2)) (fun a10 => obd (gq r7.2 (o) 4 0) (fun w12 => obd w12 (fun a17 => obd (gi r7.2 (a17) 3 4) (fun u18 => (if x1 < u18 then obd (gi r7.2 (a10) 2 7) (fun u24 => (if u24 ≤ 0 then obd (gi r7.2 (a10) 2 11) (fun u30 => (if u30 = 0 then some ((2 : Int32), r7.2) else some ((1 : Int32), r7.2))) else some ((0 : Int32), r7.2))) else some (((-1) : Int32), r7.2)))))))) else none)))
set_option maxRecDepth 100000 in
set_option maxHeartbeats 8000000 in
theorem Ti_stuck_x {F : xF} {G : xG} {B sz : Nat} {o : Nat} (C : xC F G B cTi_stuck RTi 3 1 21 0 0) (hr : (xFM F).sig.returnType = (some .int)) {n : Nat} {x1 : Int32} {h : xH} {R : Int32 × xH} (hR : Ti_stuck_f n o x1 h = some R) : X F G B (xZ F G B (kP (some (.int R.1)) R.2 sz) 0 0) 3 h sz 0 0 0 [(0, .ref (o)), (1, .int (x1))] [] := by
  unfold Ti_stuck_f at hR
  refine X_aload_n C dTi_stuck_0 rfl ?_
  have hq := o_bind hR
  clear hR
  obtain ⟨w1, hx5, hR⟩ := hq
  obtain ⟨fs2, he3, hv4⟩ := gq_e hx5
  refine X_get (k := 0) C oTi fwTi_10 he3 hv4 dTi_stuck_1 ?_
  refine X_iload_n C dTi_stuck_4 rfl ?_
  have hq := o_bind hR
  clear hR
  obtain ⟨a6, rfl, hR⟩ := hq
  have hq := o_if hR
  clear hR
  obtain ⟨k36, hR⟩ := hq
  obtain ⟨fs37, he38⟩ := kc_e k36
  have hq := o_bind hR
  clear hR
  obtain ⟨r7, hr7, hR⟩ := hq
  refine X_callVk (As := [.int (x1)]) (rest := []) C (Ya_stateAt_c hr7) wTi_121 ⟨by decide, by decide⟩ ⟨Nat.le_refl _, Nat.le_refl _⟩ he38 oYa.2.1 rfl rfl (Nat.le_of_ble_eq_true rfl) dTi_stuck_5 ?_
  show X F G B _ 3 (r7.2) _ _ _ _ _ [va_rf (r7.1)]
  have hq := b_bnd hR
  clear hR
  obtain ⟨w8, e9, hR⟩ := hq
  rw [← e9]
  refine X_astore_nq (lv' := [(2, va_rf (w8)), (0, .ref (o)), (1, .int (x1))]) C dTi_stuck_8 (by decide) rfl ?_
  refine X_aload_nq C dTi_stuck_9 rfl ?_
  refine X_ifnullq (tgt := 24) C dTi_stuck_10 (by decide) (fun e11 => ?_) (fun a10 e11 => ?_)
  · subst e11
    rw [oel_n] at hR
    refine X_iconst (v := (-1)) C dTi_stuck_24 rfl ?_
    rw [← Option.some.inj hR]
    exact X_iret C hr (Nat.le_refl _) (Nat.le_refl _) dTi_stuck_25 ⟨rfl, rfl, rfl⟩
  · subst e11
    rw [oel_s] at hR
    refine X_iload_n C dTi_stuck_13 rfl ?_
    refine X_aload_n C dTi_stuck_14 rfl ?_
    have hq := o_bind hR
    clear hR
    obtain ⟨w12, hx16, hR⟩ := hq
    obtain ⟨fs13, he14, hv15⟩ := gq_e hx16
    refine X_get (k := 0) C oTi fwTi_10 he14 hv15 dTi_stuck_15 ?_
    have hq := o_bind hR
    clear hR
    obtain ⟨a17, rfl, hR⟩ := hq
    have hq := o_bind hR
    clear hR
    obtain ⟨u18, hx22, hR⟩ := hq
    obtain ⟨fs19, he20, hv21⟩ := gi_e hx22
    refine X_get (k := 4) C oYa fwTi_142 he20 hv21 dTi_stuck_18 ?_
    refine X_icmp_lt (tgt := 26) C dTi_stuck_21 (by decide) (fun c23 => ?_) (fun c23 => ?_)
    · rw [if_pos c23] at hR
      refine X_aload_n C dTi_stuck_26 rfl ?_
      have hq := o_bind hR
      clear hR
      obtain ⟨u24, hx28, hR⟩ := hq
      obtain ⟨fs25, he26, hv27⟩ := gi_e hx28
      refine X_get (k := 7) C oSt fwTi_145 he26 hv27 dTi_stuck_27 ?_
      refine X_if_le (tgt := 35) C dTi_stuck_30 (by decide) (fun c29 => ?_) (fun c29 => ?_)
      · rw [if_pos c29] at hR
        refine X_aload_n C dTi_stuck_35 rfl ?_
        have hq := o_bind hR
        clear hR
        obtain ⟨u30, hx34, hR⟩ := hq
        obtain ⟨fs31, he32, hv33⟩ := gi_e hx34
        refine X_get (k := 11) C oSt fwTi_175 he32 hv33 dTi_stuck_36 ?_
        refine X_if_eq (tgt := 46) C dTi_stuck_39 (by decide) (fun c35 => ?_) (fun c35 => ?_)
        · rw [if_pos c35] at hR
          refine X_iconst (v := 2) C dTi_stuck_46 rfl ?_
          rw [← Option.some.inj hR]
          exact X_iret C hr (Nat.le_refl _) (Nat.le_refl _) dTi_stuck_47 ⟨rfl, rfl, rfl⟩
        · rw [if_neg c35] at hR
          refine X_iconst (v := 1) C dTi_stuck_42 rfl ?_
          refine X_goto (tgt := 47) C dTi_stuck_43 (by decide) ?_
          rw [← Option.some.inj hR]
          exact X_iret C hr (Nat.le_refl _) (Nat.le_refl _) dTi_stuck_47 ⟨rfl, rfl, rfl⟩
      · rw [if_neg c29] at hR
        refine X_iconst (v := 0) C dTi_stuck_33 rfl ?_
        rw [← Option.some.inj hR]
        exact X_iret C hr (Nat.le_refl _) (Nat.le_refl _) dTi_stuck_34 ⟨rfl, rfl, rfl⟩
    · rw [if_neg c23] at hR
      refine X_iconst (v := (-1)) C dTi_stuck_24 rfl ?_
      rw [← Option.some.inj hR]
      exact X_iret C hr (Nat.le_refl _) (Nat.le_refl _) dTi_stuck_25 ⟨rfl, rfl, rfl⟩
theorem Ti_stuck_c {l : Launch} {G : xG} {B sz : Nat} {o : Nat} {n : Nat} {x1 : Int32} {h : xH} {R : Int32 × xH} (hR : Ti_stuck_f n o x1 h = some R) : xCon l yTi_stuck cTi_stuck 3 (some .int) 1 21 0 0 G B [.ref (o), .int (x1)] h sz (kP (some (.int R.1)) R.2 sz) := xCon.of (by decide) (by exact Nat.le_of_ble_eq_true rfl) (fun F e C hr hnm => X_sub (lv' := [(0, .ref (o)), (1, .int (x1))]) [0, 1] rfl (Ti_stuck_x C hr hR))
def Ti_hand_f (n : Nat) (o : Nat) (x1 : Int32) (x2 : Int32) (h : xH) : Option (Int32 × xH) := (if x1 = 0 then obd (gq h (o) 4 1) (fun w2 => obd w2 (fun a7 => (if kc h (a7) 1 = true then obd (Zo_becomeAllTimes_f n 0 (a7) 0 h) (fun r8 => some ((0 : Int32), r8.2)) else none))) else (if x1 = 1 then obd (gq h (o) 4 1) (fun w13 => obd w13 (fun a18 => (if kc h (a18) 1 = true then obd (Zo_becomeAllZero_f n (a18) h) (fun r19 => some ((0 : Int32), r19.2)) else none))) else (if x1 = 2 then obd (gq h (o) 4 0) (fun w24 => obd w24 (fun a29 => (if kc h (a29) 3 = true then obd (Ya_stateAt_f n (a29) (x2) h) (fun r30 => bnd (r30.1) (fun w31 => oel (w31) (some (((-1) : Int32), r30.2)) (fun a33 => obd (gq r30.2 (o) 4 1) (fun w35 => obd (gq r30.2 (a33) 2 3) (fun w40 => obd w35 (fun a45 => (if kc r30.2 (a45) 1 = true then obd (Zo_becomeAs_f n (a45) (w40) r30.2) (fun r46 => some ((0 : Int32), r46.2)) else none))))))) else none))) else (if x1 = 3 then obd (gq h (o) 4 1) (fun w54 => obd w54 (fun a59 => obd (pf h (a59) 1 2 (.int ((1 : Int32)))) (fun h60 => some ((0 : Int32), h60)))) else some (((-1) : Int32), h)))))
set_option maxRecDepth 100000 in
set_option maxHeartbeats 8000000 in
theorem Ti_hand_x {F : xF} {G : xG} {B sz : Nat} {o : Nat} (C : xC F G B cTi_hand RTi 4 2 61 0 0) (hr : (xFM F).sig.returnType = (some .int)) {n : Nat} {x1 : Int32} {x2 : Int32} {h : xH} {R : Int32 × xH} (hR : Ti_hand_f n o x1 x2 h = some R) : X F G B (xZ F G B (kP (some (.int R.1)) R.2 sz) 0 0) 4 h sz 0 0 0 [(0, .ref (o)), (1, .int (x1)), (2, .int (x2))] [] := by
  unfold Ti_hand_f at hR
  refine X_iload_n C dTi_hand_0 rfl ?_
  by_cases c1 : x1 = 0
  · rw [if_pos c1] at hR
    refine X_tableIn (off := 31) (tgt := 32) C dTi_hand_1 (by rw [c1]; decide) (by rw [c1]; decide) (by rw [c1]; rfl) (by decide) ?_
    refine X_aload_n C dTi_hand_32 rfl ?_
    have hq := o_bind hR
    clear hR
    obtain ⟨w2, hx6, hR⟩ := hq
    obtain ⟨fs3, he4, hv5⟩ := gq_e hx6
    refine X_get (k := 1) C oTi fwTi_21 he4 hv5 dTi_hand_33 ?_
    have hq := o_bind hR
    clear hR
    obtain ⟨a7, rfl, hR⟩ := hq
    have hq := o_if hR
    clear hR
    obtain ⟨k9, hR⟩ := hq
    obtain ⟨fs10, he11⟩ := kc_e k9
    have hq := o_bind hR
    clear hR
    obtain ⟨r8, hr8, hR⟩ := hq
    refine X_callVk (As := []) (rest := []) C (Zo_becomeAllTimes_c hr8) wTi_25 ⟨by decide, by decide⟩ ⟨Nat.le_refl _, Nat.le_refl _⟩ he11 oZo.2.1 rfl rfl (Nat.le_of_ble_eq_true rfl) dTi_hand_36 ?_
    show X F G B _ 4 (r8.2) _ _ _ _ _ []
    refine X_iconst (v := 0) C dTi_hand_39 rfl ?_
    rw [← Option.some.inj hR]
    exact X_iret C hr (Nat.le_refl _) (Nat.le_refl _) dTi_hand_40 ⟨rfl, rfl, rfl⟩
  · rw [if_neg c1] at hR
    by_cases c12 : x1 = 1
    · rw [if_pos c12] at hR
      refine X_tableIn (off := 40) (tgt := 41) C dTi_hand_1 (by rw [c12]; decide) (by rw [c12]; decide) (by rw [c12]; rfl) (by decide) ?_
      refine X_aload_n C dTi_hand_41 rfl ?_
      have hq := o_bind hR
      clear hR
      obtain ⟨w13, hx17, hR⟩ := hq
      obtain ⟨fs14, he15, hv16⟩ := gq_e hx17
      refine X_get (k := 1) C oTi fwTi_21 he15 hv16 dTi_hand_42 ?_
      have hq := o_bind hR
      clear hR
      obtain ⟨a18, rfl, hR⟩ := hq
      have hq := o_if hR
      clear hR
      obtain ⟨k20, hR⟩ := hq
      obtain ⟨fs21, he22⟩ := kc_e k20
      have hq := o_bind hR
      clear hR
      obtain ⟨r19, hr19, hR⟩ := hq
      refine X_callVk (As := []) (rest := []) C (Zo_becomeAllZero_c hr19) wTi_179 ⟨by decide, by decide⟩ ⟨Nat.le_refl _, Nat.le_refl _⟩ he22 oZo.2.1 rfl rfl (Nat.le_of_ble_eq_true rfl) dTi_hand_45 ?_
      show X F G B _ 4 (r19.2) _ _ _ _ _ []
      refine X_iconst (v := 0) C dTi_hand_48 rfl ?_
      rw [← Option.some.inj hR]
      exact X_iret C hr (Nat.le_refl _) (Nat.le_refl _) dTi_hand_49 ⟨rfl, rfl, rfl⟩
    · rw [if_neg c12] at hR
      by_cases c23 : x1 = 2
      · rw [if_pos c23] at hR
        refine X_tableIn (off := 49) (tgt := 50) C dTi_hand_1 (by rw [c23]; decide) (by rw [c23]; decide) (by rw [c23]; rfl) (by decide) ?_
        refine X_aload_n C dTi_hand_50 rfl ?_
        have hq := o_bind hR
        clear hR
        obtain ⟨w24, hx28, hR⟩ := hq
        obtain ⟨fs25, he26, hv27⟩ := gq_e hx28
        refine X_get (k := 0) C oTi fwTi_10 he26 hv27 dTi_hand_51 ?_
        refine X_iload_n C dTi_hand_54 rfl ?_
        have hq := o_bind hR
        clear hR
        obtain ⟨a29, rfl, hR⟩ := hq
        have hq := o_if hR
        clear hR
        obtain ⟨k50, hR⟩ := hq
        obtain ⟨fs51, he52⟩ := kc_e k50
        have hq := o_bind hR
        clear hR
        obtain ⟨r30, hr30, hR⟩ := hq
        refine X_callVk (As := [.int (x2)]) (rest := []) C (Ya_stateAt_c hr30) wTi_121 ⟨by decide, by decide⟩ ⟨Nat.le_refl _, Nat.le_refl _⟩ he52 oYa.2.1 rfl rfl (Nat.le_of_ble_eq_true rfl) dTi_hand_55 ?_
        show X F G B _ 4 (r30.2) _ _ _ _ _ [va_rf (r30.1)]
        have hq := b_bnd hR
        clear hR
        obtain ⟨w31, e32, hR⟩ := hq
        rw [← e32]
        refine X_astore_nq (lv' := [(3, va_rf (w31)), (0, .ref (o)), (1, .int (x1)), (2, .int (x2))]) C dTi_hand_58 (by decide) rfl ?_
        refine X_aload_nq C dTi_hand_59 rfl ?_
        refine X_ifnonnullq (tgt := 65) C dTi_hand_60 (by decide) (fun a33 e34 => ?_) (fun e34 => ?_)
        · subst e34
          rw [oel_s] at hR
          refine X_aload_n C dTi_hand_65 rfl ?_
          have hq := o_bind hR
          clear hR
          obtain ⟨w35, hx39, hR⟩ := hq
          obtain ⟨fs36, he37, hv38⟩ := gq_e hx39
          refine X_get (k := 1) C oTi fwTi_21 he37 hv38 dTi_hand_66 ?_
          refine X_aload_n C dTi_hand_69 rfl ?_
          have hq := o_bind hR
          clear hR
          obtain ⟨w40, hx44, hR⟩ := hq
          obtain ⟨fs41, he42, hv43⟩ := gq_e hx44
          refine X_get (k := 3) C oSt fwTi_158 he42 hv43 dTi_hand_70 ?_
          have hq := o_bind hR
          clear hR
          obtain ⟨a45, rfl, hR⟩ := hq
          have hq := o_if hR
          clear hR
          obtain ⟨k47, hR⟩ := hq
          obtain ⟨fs48, he49⟩ := kc_e k47
          have hq := o_bind hR
          clear hR
          obtain ⟨r46, hr46, hR⟩ := hq
          refine X_callVk (As := [va_rf (w40)]) (rest := []) C (Zo_becomeAs_c hr46) wTi_182 ⟨by decide, by decide⟩ ⟨Nat.le_refl _, Nat.le_refl _⟩ he49 oZo.2.1 rfl rfl (Nat.le_of_ble_eq_true rfl) dTi_hand_73 ?_
          show X F G B _ 4 (r46.2) _ _ _ _ _ []
          refine X_iconst (v := 0) C dTi_hand_76 rfl ?_
          rw [← Option.some.inj hR]
          exact X_iret C hr (Nat.le_refl _) (Nat.le_refl _) dTi_hand_77 ⟨rfl, rfl, rfl⟩
        · subst e34
          rw [oel_n] at hR
          refine X_iconst (v := (-1)) C dTi_hand_63 rfl ?_
          rw [← Option.some.inj hR]
          exact X_iret C hr (Nat.le_refl _) (Nat.le_refl _) dTi_hand_64 ⟨rfl, rfl, rfl⟩
      · rw [if_neg c23] at hR
        by_cases c53 : x1 = 3
        · rw [if_pos c53] at hR
          refine X_tableIn (off := 77) (tgt := 78) C dTi_hand_1 (by rw [c53]; decide) (by rw [c53]; decide) (by rw [c53]; rfl) (by decide) ?_
          refine X_aload_n C dTi_hand_78 rfl ?_
          have hq := o_bind hR
          clear hR
          obtain ⟨w54, hx58, hR⟩ := hq
          obtain ⟨fs55, he56, hv57⟩ := gq_e hx58
          refine X_get (k := 1) C oTi fwTi_21 he56 hv57 dTi_hand_79 ?_
          refine X_iconst (v := 1) C dTi_hand_82 rfl ?_
          have hq := o_bind hR
          clear hR
          obtain ⟨a59, rfl, hR⟩ := hq
          have hq := o_bind hR
          clear hR
          obtain ⟨h60, hh61, hR⟩ := hq
          obtain ⟨fs62, he63, hl64, e65⟩ := pf_e hh61
          refine X_put (k := 2) C oZo fwTi_186 rfl he63 rfl rfl hl64 dTi_hand_83 ?_
          rw [← e65]
          refine X_iconst (v := 0) C dTi_hand_86 rfl ?_
          rw [← Option.some.inj hR]
          exact X_iret C hr (Nat.le_refl _) (Nat.le_refl _) dTi_hand_87 ⟨rfl, rfl, rfl⟩
        · rw [if_neg c53] at hR
          have ec1 := lv_neT (a := 0) c1 (by decide)
          have ec12 := lv_neT (a := 1) c12 (by decide)
          have ec23 := lv_neT (a := 2) c23 (by decide)
          have ec53 := lv_neT (a := 3) c53 (by decide)
          refine X_tableOut (tgt := 88) C dTi_hand_1 (by omega) (by decide) ?_
          refine X_iconst (v := (-1)) C dTi_hand_88 rfl ?_
          rw [← Option.some.inj hR]
          exact X_iret C hr (Nat.le_refl _) (Nat.le_refl _) dTi_hand_89 ⟨rfl, rfl, rfl⟩
theorem Ti_hand_c {l : Launch} {G : xG} {B sz : Nat} {o : Nat} {n : Nat} {x1 : Int32} {x2 : Int32} {h : xH} {R : Int32 × xH} (hR : Ti_hand_f n o x1 x2 h = some R) : xCon l yTi_hand cTi_hand 4 (some .int) 2 61 0 0 G B [.ref (o), .int (x1), .int (x2)] h sz (kP (some (.int R.1)) R.2 sz) := xCon.of (by decide) (by exact Nat.le_of_ble_eq_true rfl) (fun F e C hr hnm => X_sub (lv' := [(0, .ref (o)), (1, .int (x1)), (2, .int (x2))]) [0, 1, 2] rfl (Ti_hand_x C hr hR))
def Ti_handEmpty_f (n : Nat) (o : Nat)  (h : xH) : Option (Int32 × xH) := obd (gq h (o) 4 1) (fun w1 => obd w1 (fun a6 => obd (gi h (a6) 1 2) (fun u7 => (if u7 = 0 then some ((0 : Int32), h) else some ((1 : Int32), h)))))
set_option maxRecDepth 100000 in
set_option maxHeartbeats 8000000 in
theorem Ti_handEmpty_x {F : xF} {G : xG} {B sz : Nat} {o : Nat} (C : xC F G B cTi_handEmpty RTi 1 0 0 0 0) (hr : (xFM F).sig.returnType = (some .int)) {n : Nat} {h : xH} {R : Int32 × xH} (hR : Ti_handEmpty_f n o  h = some R) : X F G B (xZ F G B (kP (some (.int R.1)) R.2 sz) 0 0) 1 h sz 0 0 0 [(0, .ref (o))] [] := by
  unfold Ti_handEmpty_f at hR
  refine X_aload_n C dTi_handEmpty_0 rfl ?_
  have hq := o_bind hR
  clear hR
  obtain ⟨w1, hx5, hR⟩ := hq
  obtain ⟨fs2, he3, hv4⟩ := gq_e hx5
  refine X_get (k := 1) C oTi fwTi_21 he3 hv4 dTi_handEmpty_1 ?_
  have hq := o_bind hR
  clear hR
  obtain ⟨a6, rfl, hR⟩ := hq
  have hq := o_bind hR
  clear hR
  obtain ⟨u7, hx11, hR⟩ := hq
  obtain ⟨fs8, he9, hv10⟩ := gi_e hx11
  refine X_get (k := 2) C oZo fwTi_186 he9 hv10 dTi_handEmpty_4 ?_
  refine X_if_eq (tgt := 14) C dTi_handEmpty_7 (by decide) (fun c12 => ?_) (fun c12 => ?_)
  · rw [if_pos c12] at hR
    refine X_iconst (v := 0) C dTi_handEmpty_14 rfl ?_
    rw [← Option.some.inj hR]
    exact X_iret C hr (Nat.le_refl _) (Nat.le_refl _) dTi_handEmpty_15 ⟨rfl, rfl, rfl⟩
  · rw [if_neg c12] at hR
    refine X_iconst (v := 1) C dTi_handEmpty_10 rfl ?_
    refine X_goto (tgt := 15) C dTi_handEmpty_11 (by decide) ?_
    rw [← Option.some.inj hR]
    exact X_iret C hr (Nat.le_refl _) (Nat.le_refl _) dTi_handEmpty_15 ⟨rfl, rfl, rfl⟩
theorem Ti_handEmpty_c {l : Launch} {G : xG} {B sz : Nat} {o : Nat} {n : Nat} {h : xH} {R : Int32 × xH} (hR : Ti_handEmpty_f n o  h = some R) : xCon l yTi_handEmpty cTi_handEmpty 1 (some .int) 0 0 0 0 G B [.ref (o)] h sz (kP (some (.int R.1)) R.2 sz) := xCon.of (by decide) (by exact Nat.le_of_ble_eq_true rfl) (fun F e C hr hnm => X_sub (lv' := [(0, .ref (o))]) [0] rfl (Ti_handEmpty_x C hr hR))
def Ti_tighten_f (n : Nat) (o : Nat) (x1 : Int32) (x2 : Int32) (x3 : Int32) (x4 : Int32) (h : xH) : Option (Int32 × xH) := obd (Ti_isClock_f n (x1) h) (fun r1 => (if r1.1 = 0 then some (((-1) : Int32), r1.2) else obd (Ti_isClock_f n (x2) r1.2) (fun r3 => (if r3.1 = 0 then some (((-1) : Int32), r3.2) else (if x1 = x2 then some (((-1) : Int32), r3.2) else obd (Ti_isBetween_f n (x3) (((-400) : Int32)) ((400 : Int32)) r3.2) (fun r6 => (if r6.1 = 0 then some (((-1) : Int32), r6.2) else obd (gq r6.2 (o) 4 1) (fun w8 => obd (Zo_mark_f n (x3) (x4) r6.2) (fun r13 => obd w8 (fun a14 => (if kc r13.2 (a14) 1 = true then obd (Zo_narrow_f n (a14) (x1) (x2) (r13.1) r13.2) (fun r15 => obd (gq r15.2 (o) 4 1) (fun w16 => obd w16 (fun a21 => (if kc r15.2 (a21) 1 = true then obd (Zo_close_f n 0 (a21) 0 0 0 r15.2) (fun r22 => (if kc r22.2 (o) 4 = true then obd (Ti_handEmpty_f n (o) r22.2) (fun r23 => some (r23.1, r23.2)) else none)) else none)))) else none)))))))))))
set_option maxRecDepth 100000 in
set_option maxHeartbeats 8000000 in
theorem Ti_tighten_x {F : xF} {G : xG} {B sz : Nat} {o : Nat} (C : xC F G B cTi_tighten RTi 5 3 68 0 0) (hr : (xFM F).sig.returnType = (some .int)) {n : Nat} {x1 : Int32} {x2 : Int32} {x3 : Int32} {x4 : Int32} {h : xH} {R : Int32 × xH} (hR : Ti_tighten_f n o x1 x2 x3 x4 h = some R) : X F G B (xZ F G B (kP (some (.int R.1)) R.2 sz) 0 0) 5 h sz 0 0 0 [(0, .ref (o)), (1, .int (x1)), (2, .int (x2)), (3, .int (x3)), (4, .int (x4))] [] := by
  unfold Ti_tighten_f at hR
  refine X_iload_n C dTi_tighten_0 rfl ?_
  have hq := o_bind hR
  clear hR
  obtain ⟨r1, hr1, hR⟩ := hq
  refine X_callSk (As := [.int (x1)]) (rest := []) C (Ti_isClock_c hr1) wTi_67 ⟨by decide, by decide⟩ ⟨Nat.le_refl _, Nat.le_refl _⟩ rfl rfl (Nat.le_of_ble_eq_true rfl) dTi_tighten_1 ?_
  show X F G B _ 5 (r1.2) _ _ _ _ _ [.int (r1.1)]
  refine X_if_eq (tgt := 32) C dTi_tighten_4 (by decide) (fun c2 => ?_) (fun c2 => ?_)
  · rw [if_pos c2] at hR
    refine X_iconst (v := (-1)) C dTi_tighten_32 rfl ?_
    rw [← Option.some.inj hR]
    exact X_iret C hr (Nat.le_refl _) (Nat.le_refl _) dTi_tighten_33 ⟨rfl, rfl, rfl⟩
  · rw [if_neg c2] at hR
    refine X_iload_n C dTi_tighten_7 rfl ?_
    have hq := o_bind hR
    clear hR
    obtain ⟨r3, hr3, hR⟩ := hq
    refine X_callSk (As := [.int (x2)]) (rest := []) C (Ti_isClock_c hr3) wTi_67 ⟨by decide, by decide⟩ ⟨Nat.le_refl _, Nat.le_refl _⟩ rfl rfl (Nat.le_of_ble_eq_true rfl) dTi_tighten_8 ?_
    show X F G B _ 5 (r3.2) _ _ _ _ _ [.int (r3.1)]
    refine X_if_eq (tgt := 32) C dTi_tighten_11 (by decide) (fun c4 => ?_) (fun c4 => ?_)
    · rw [if_pos c4] at hR
      refine X_iconst (v := (-1)) C dTi_tighten_32 rfl ?_
      rw [← Option.some.inj hR]
      exact X_iret C hr (Nat.le_refl _) (Nat.le_refl _) dTi_tighten_33 ⟨rfl, rfl, rfl⟩
    · rw [if_neg c4] at hR
      refine X_iload_n C dTi_tighten_14 rfl ?_
      refine X_iload_n C dTi_tighten_15 rfl ?_
      refine X_icmp_eq (tgt := 32) C dTi_tighten_16 (by decide) (fun c5 => ?_) (fun c5 => ?_)
      · rw [if_pos c5] at hR
        refine X_iconst (v := (-1)) C dTi_tighten_32 rfl ?_
        rw [← Option.some.inj hR]
        exact X_iret C hr (Nat.le_refl _) (Nat.le_refl _) dTi_tighten_33 ⟨rfl, rfl, rfl⟩
      · rw [if_neg c5] at hR
        refine X_iload_n C dTi_tighten_19 rfl ?_
        refine X_sipush (v := (-400)) C dTi_tighten_20 (by decide) ?_
        refine X_sipush (v := 400) C dTi_tighten_23 (by decide) ?_
        have hq := o_bind hR
        clear hR
        obtain ⟨r6, hr6, hR⟩ := hq
        refine X_callSk (As := [.int (x3), .int (((-400) : Int32)), .int ((400 : Int32))]) (rest := []) C (Ti_isBetween_c hr6) wTi_71 ⟨by decide, by decide⟩ ⟨Nat.le_refl _, Nat.le_refl _⟩ rfl rfl (Nat.le_of_ble_eq_true rfl) dTi_tighten_26 ?_
        show X F G B _ 5 (r6.2) _ _ _ _ _ [.int (r6.1)]
        refine X_if_ne (tgt := 34) C dTi_tighten_29 (by decide) (fun c7 => ?_) (fun c7 => ?_)
        · rw [if_neg c7] at hR
          refine X_aload_n C dTi_tighten_34 rfl ?_
          have hq := o_bind hR
          clear hR
          obtain ⟨w8, hx12, hR⟩ := hq
          obtain ⟨fs9, he10, hv11⟩ := gq_e hx12
          refine X_get (k := 1) C oTi fwTi_21 he10 hv11 dTi_tighten_35 ?_
          refine X_iload_n C dTi_tighten_38 rfl ?_
          refine X_iload_n C dTi_tighten_39 rfl ?_
          refine X_iload_n C dTi_tighten_40 rfl ?_
          refine X_iload C dTi_tighten_41 rfl ?_
          have hq := o_bind hR
          clear hR
          obtain ⟨r13, hr13, hR⟩ := hq
          refine X_callSk (As := [.int (x3), .int (x4)]) (rest := [.int (x2), .int (x1), va_rf (w8)]) C (Zo_mark_c hr13) wTi_84 ⟨by decide, by decide⟩ ⟨Nat.le_refl _, Nat.le_refl _⟩ rfl rfl (by simp [rf_cat, cat_i, cat_r, cat_l]) dTi_tighten_43 ?_
          show X F G B _ 5 (r13.2) _ _ _ _ _ [.int (r13.1), .int (x2), .int (x1), va_rf (w8)]
          have hq := o_bind hR
          clear hR
          obtain ⟨a14, rfl, hR⟩ := hq
          have hq := o_if hR
          clear hR
          obtain ⟨k30, hR⟩ := hq
          obtain ⟨fs31, he32⟩ := kc_e k30
          have hq := o_bind hR
          clear hR
          obtain ⟨r15, hr15, hR⟩ := hq
          refine X_callVk (As := [.int (x1), .int (x2), .int (r13.1)]) (rest := []) C (Zo_narrow_c hr15) wTi_189 ⟨by decide, by decide⟩ ⟨Nat.le_refl _, Nat.le_refl _⟩ he32 oZo.2.1 rfl rfl (Nat.le_of_ble_eq_true rfl) dTi_tighten_46 ?_
          show X F G B _ 5 (r15.2) _ _ _ _ _ []
          refine X_aload_n C dTi_tighten_49 rfl ?_
          have hq := o_bind hR
          clear hR
          obtain ⟨w16, hx20, hR⟩ := hq
          obtain ⟨fs17, he18, hv19⟩ := gq_e hx20
          refine X_get (k := 1) C oTi fwTi_21 he18 hv19 dTi_tighten_50 ?_
          have hq := o_bind hR
          clear hR
          obtain ⟨a21, rfl, hR⟩ := hq
          have hq := o_if hR
          clear hR
          obtain ⟨k27, hR⟩ := hq
          obtain ⟨fs28, he29⟩ := kc_e k27
          have hq := o_bind hR
          clear hR
          obtain ⟨r22, hr22, hR⟩ := hq
          refine X_callVk (As := []) (rest := []) C (Zo_close_c hr22) wTi_193 ⟨by decide, by decide⟩ ⟨Nat.le_refl _, Nat.le_refl _⟩ he29 oZo.2.1 rfl rfl (Nat.le_of_ble_eq_true rfl) dTi_tighten_53 ?_
          show X F G B _ 5 (r22.2) _ _ _ _ _ []
          refine X_aload_n C dTi_tighten_56 rfl ?_
          have hq := o_if hR
          clear hR
          obtain ⟨k24, hR⟩ := hq
          obtain ⟨fs25, he26⟩ := kc_e k24
          have hq := o_bind hR
          clear hR
          obtain ⟨r23, hr23, hR⟩ := hq
          refine X_callVk (As := []) (rest := []) C (Ti_handEmpty_c hr23) wTi_196 ⟨by decide, by decide⟩ ⟨Nat.le_refl _, Nat.le_refl _⟩ he26 oTi.2.1 rfl rfl (Nat.le_of_ble_eq_true rfl) dTi_tighten_57 ?_
          show X F G B _ 5 (r23.2) _ _ _ _ _ [.int (r23.1)]
          rw [← Option.some.inj hR]
          exact X_iret C hr (Nat.le_refl _) (Nat.le_refl _) dTi_tighten_60 ⟨rfl, rfl, rfl⟩
        · rw [if_pos c7] at hR
          refine X_iconst (v := (-1)) C dTi_tighten_32 rfl ?_
          rw [← Option.some.inj hR]
          exact X_iret C hr (Nat.le_refl _) (Nat.le_refl _) dTi_tighten_33 ⟨rfl, rfl, rfl⟩
theorem Ti_tighten_c {l : Launch} {G : xG} {B sz : Nat} {o : Nat} {n : Nat} {x1 : Int32} {x2 : Int32} {x3 : Int32} {x4 : Int32} {h : xH} {R : Int32 × xH} (hR : Ti_tighten_f n o x1 x2 x3 x4 h = some R) : xCon l yTi_tighten cTi_tighten 5 (some .int) 3 68 0 0 G B [.ref (o), .int (x1), .int (x2), .int (x3), .int (x4)] h sz (kP (some (.int R.1)) R.2 sz) := xCon.of (by decide) (by exact Nat.le_of_ble_eq_true rfl) (fun F e C hr hnm => X_sub (lv' := [(0, .ref (o)), (1, .int (x1)), (2, .int (x2)), (3, .int (x3)), (4, .int (x4))]) [0, 1, 2, 3, 4] rfl (Ti_tighten_x C hr hR))
def Ti_pass_f (n : Nat) (o : Nat)  (h : xH) : Option (Int32 × xH) := obd (gq h (o) 4 1) (fun w1 => obd w1 (fun a6 => (if kc h (a6) 1 = true then obd (Zo_elapse_f n 0 (a6) 0 h) (fun r7 => obd (gq r7.2 (o) 4 1) (fun w8 => obd w8 (fun a13 => (if kc r7.2 (a13) 1 = true then obd (Zo_close_f n 0 (a13) 0 0 0 r7.2) (fun r14 => (if kc r14.2 (o) 4 = true then obd (Ti_handEmpty_f n (o) r14.2) (fun r15 => some (r15.1, r15.2)) else none)) else none)))) else none)))
set_option maxRecDepth 100000 in
set_option maxHeartbeats 8000000 in
theorem Ti_pass_x {F : xF} {G : xG} {B sz : Nat} {o : Nat} (C : xC F G B cTi_pass RTi 1 3 68 0 0) (hr : (xFM F).sig.returnType = (some .int)) {n : Nat} {h : xH} {R : Int32 × xH} (hR : Ti_pass_f n o  h = some R) : X F G B (xZ F G B (kP (some (.int R.1)) R.2 sz) 0 0) 1 h sz 0 0 0 [(0, .ref (o))] [] := by
  unfold Ti_pass_f at hR
  refine X_aload_n C dTi_pass_0 rfl ?_
  have hq := o_bind hR
  clear hR
  obtain ⟨w1, hx5, hR⟩ := hq
  obtain ⟨fs2, he3, hv4⟩ := gq_e hx5
  refine X_get (k := 1) C oTi fwTi_21 he3 hv4 dTi_pass_1 ?_
  have hq := o_bind hR
  clear hR
  obtain ⟨a6, rfl, hR⟩ := hq
  have hq := o_if hR
  clear hR
  obtain ⟨k22, hR⟩ := hq
  obtain ⟨fs23, he24⟩ := kc_e k22
  have hq := o_bind hR
  clear hR
  obtain ⟨r7, hr7, hR⟩ := hq
  refine X_callVk (As := []) (rest := []) C (Zo_elapse_c hr7) wTi_200 ⟨by decide, by decide⟩ ⟨Nat.le_refl _, Nat.le_refl _⟩ he24 oZo.2.1 rfl rfl (Nat.le_of_ble_eq_true rfl) dTi_pass_4 ?_
  show X F G B _ 1 (r7.2) _ _ _ _ _ []
  refine X_aload_n C dTi_pass_7 rfl ?_
  have hq := o_bind hR
  clear hR
  obtain ⟨w8, hx12, hR⟩ := hq
  obtain ⟨fs9, he10, hv11⟩ := gq_e hx12
  refine X_get (k := 1) C oTi fwTi_21 he10 hv11 dTi_pass_8 ?_
  have hq := o_bind hR
  clear hR
  obtain ⟨a13, rfl, hR⟩ := hq
  have hq := o_if hR
  clear hR
  obtain ⟨k19, hR⟩ := hq
  obtain ⟨fs20, he21⟩ := kc_e k19
  have hq := o_bind hR
  clear hR
  obtain ⟨r14, hr14, hR⟩ := hq
  refine X_callVk (As := []) (rest := []) C (Zo_close_c hr14) wTi_193 ⟨by decide, by decide⟩ ⟨Nat.le_refl _, Nat.le_refl _⟩ he21 oZo.2.1 rfl rfl (Nat.le_of_ble_eq_true rfl) dTi_pass_11 ?_
  show X F G B _ 1 (r14.2) _ _ _ _ _ []
  refine X_aload_n C dTi_pass_14 rfl ?_
  have hq := o_if hR
  clear hR
  obtain ⟨k16, hR⟩ := hq
  obtain ⟨fs17, he18⟩ := kc_e k16
  have hq := o_bind hR
  clear hR
  obtain ⟨r15, hr15, hR⟩ := hq
  refine X_callVk (As := []) (rest := []) C (Ti_handEmpty_c hr15) wTi_196 ⟨by decide, by decide⟩ ⟨Nat.le_refl _, Nat.le_refl _⟩ he18 oTi.2.1 rfl rfl (Nat.le_of_ble_eq_true rfl) dTi_pass_15 ?_
  show X F G B _ 1 (r15.2) _ _ _ _ _ [.int (r15.1)]
  rw [← Option.some.inj hR]
  exact X_iret C hr (Nat.le_refl _) (Nat.le_refl _) dTi_pass_18 ⟨rfl, rfl, rfl⟩
theorem Ti_pass_c {l : Launch} {G : xG} {B sz : Nat} {o : Nat} {n : Nat} {h : xH} {R : Int32 × xH} (hR : Ti_pass_f n o  h = some R) : xCon l yTi_pass cTi_pass 1 (some .int) 3 68 0 0 G B [.ref (o)] h sz (kP (some (.int R.1)) R.2 sz) := xCon.of (by decide) (by exact Nat.le_of_ble_eq_true rfl) (fun F e C hr hnm => X_sub (lv' := [(0, .ref (o))]) [0] rfl (Ti_pass_x C hr hR))
