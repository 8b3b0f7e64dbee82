/-! methods with tables of handlers -/
def kL (r : Option Value) (h1 : xH) (sz : Nat) : Option Value → xH → Nat → Prop := fun v h' z => v = r ∧ h' = h1 ∧ sz ≤ z
theorem wTi_271 : xSW RTi 271 yTi_caughtWord cTi_caughtWord 2 (some .int) [(0, 7, 10, 259), (0, 7, 16, 315)] 1 := ⟨mem_x 737 (by decide +kernel) (by decide +kernel), mem_x 49 (by decide +kernel) (by decide +kernel), mem_x 735 (by decide +kernel) (by decide +kernel), mem_x 736 (by decide +kernel) (by decide +kernel), by decide +kernel⟩
theorem kl_Ti_259 : Cond.classLink RTi 259 (yEx 2) ∈ xtbl := mem_x 738 (by decide +kernel) (by decide +kernel)
theorem kl_Ti_315 : Cond.classLink RTi 315 (yEx 3) ∈ xtbl := mem_x 739 (by decide +kernel) (by decide +kernel)
theorem kl_L_13 : Cond.classLink RL 13 (yEx 1) ∈ xtbl := mem_x 828 (by decide +kernel) (by decide +kernel)
theorem kl_L_23 : Cond.classLink RL 23 (yEx 2) ∈ xtbl := mem_x 861 (by decide +kernel) (by decide +kernel)
theorem wL_7 : xV RL 7 RTi yTi_bound cTi_bound 5 (some .int) 3 := ⟨mem_x 832 (by decide +kernel) (by decide +kernel), mem_x 49 (by decide +kernel) (by decide +kernel), mem_x 829 (by decide +kernel) (by decide +kernel), mem_x 830 (by decide +kernel) (by decide +kernel), mem_x 831 (by decide +kernel) (by decide +kernel), by decide +kernel⟩
theorem wL_15 : xV RL 15 RTi yTi_handBound cTi_handBound 3 (some .int) 2 := ⟨mem_x 855 (by decide +kernel) (by decide +kernel), mem_x 49 (by decide +kernel) (by decide +kernel), mem_x 852 (by decide +kernel) (by decide +kernel), mem_x 853 (by decide +kernel) (by decide +kernel), mem_x 854 (by decide +kernel) (by decide +kernel), by decide +kernel⟩
theorem wL_19 : xV RL 19 RTi yTi_element cTi_element 5 (some .long) 2 := ⟨mem_x 865 (by decide +kernel) (by decide +kernel), mem_x 49 (by decide +kernel) (by decide +kernel), mem_x 862 (by decide +kernel) (by decide +kernel), mem_x 863 (by decide +kernel) (by decide +kernel), mem_x 864 (by decide +kernel) (by decide +kernel), by decide +kernel⟩
theorem wTi_312 : xS RTi 312 yTi_throwFailure cTi_throwFailure 1 none 1 := ⟨mem_x 742 (by decide +kernel) (by decide +kernel), mem_x 49 (by decide +kernel) (by decide +kernel), mem_x 740 (by decide +kernel) (by decide +kernel), mem_x 741 (by decide +kernel) (by decide +kernel), by decide +kernel⟩
theorem fwTi_309 : 2 < 7 ∧ Cond.fieldLink RTi 309 (TWa 2).1 (TWa 2).2.1 (TWa 2).2.2.1 ∈ xtbl := ⟨by decide, mem_x 278 (by decide +kernel) (by decide +kernel)⟩
def Ti_caughtWord_f (n : Nat) (y0 : Option Nat) (h : xH) : Option (Int32 × xH) := obd y0 (fun a => obd (gi h a 7 2) (fun u => obd (Ti_throwFailure_f n u h) (fun r => if r.2.1 = 0 then some (-15, r.2.2) else if r.2.1 = 2 then obd (gi r.2.2 a 7 2) (fun u => some (u, r.2.2)) else if r.2.1 = 3 then obd (gi r.2.2 a 7 2) (fun u => some (-u, r.2.2)) else none)))
set_option maxRecDepth 100000 in
set_option maxHeartbeats 8000000 in
theorem Ti_caughtWord_x {F : xF} {G : xG} {B sz : Nat} {Y : Nat → Nat} (C : xC F G B cTi_caughtWord RTi 2 7 102 1 6) (K : yK B Y (xFs F)) (hst : (xFl F).stackTraces = false) (hr : (xFM F).sig.returnType = (some .int)) (htb : (xFc F).exceptionTable.toList = tableOf [(0, 7, 10, 259), (0, 7, 16, 315)]) {n : Nat} {y0 : Option Nat} {h : xH} {R : Int32 × xH} (hR : Ti_caughtWord_f n y0 h = some R) : X F G B (xZ F G B (kL (some (.int R.1)) R.2 sz) 1 6) 2 h sz 0 0 0 [(0, va_rf y0)] [] := by
  unfold Ti_caughtWord_f at hR
  have hq := o_bind hR
  clear hR
  obtain ⟨a, rfl, hR⟩ := hq
  have hq := o_bind hR
  clear hR
  obtain ⟨u, hx, hR⟩ := hq
  have hq := o_bind hR
  clear hR
  obtain ⟨r, ht, hR⟩ := hq
  obtain ⟨fs, he, hv⟩ := gi_e hx
  refine X_sub (lv' := [(0, .ref a)]) [0] rfl ?_
  refine X_aload_n C dTi_caughtWord_0 rfl ?_
  refine X_get (k := 2) C oWa fwTi_309 he hv dTi_caughtWord_1 ?_
  refine X_callSt (As := [.int u]) (rest := []) C K (Ti_throwFailure_c hst ht) wTi_312 ⟨by decide, by decide⟩ ⟨by decide, by decide⟩ rfl rfl (Nat.le_of_ble_eq_true rfl) dTi_caughtWord_4 (fun c0 => ?_) (fun c0 z' hz => ?_)
  · rw [if_pos c0] at hR
    show X F G B _ 2 r.2.2 _ _ _ _ _ []
    refine X_goto (tgt := 23) C dTi_caughtWord_7 (by decide) ?_
    refine X_bipush (v := (-15)) C dTi_caughtWord_23 (by decide) ?_
    rw [← Option.some.inj hR]
    exact X_iret C hr (Nat.le_refl _) (Nat.le_refl _) dTi_caughtWord_25 ⟨rfl, rfl, Nat.le_refl _⟩
  · rw [if_neg c0] at hR
    by_cases c2 : r.2.1 = 2
    · rw [if_pos c2] at hR
      rw [c2]
      have hq := o_bind hR
      clear hR
      obtain ⟨u2, hx2, hR⟩ := hq
      obtain ⟨fs2, he2, hv2⟩ := gi_e hx2
      refine X_catch (hp := 10) C ?_ (fun q => ?_)
      · rw [htb]
        exact Or.inr ⟨by decide, by decide, yEx 2, C.2.2.2.2.1 _ kl_Ti_259, Or.inl ⟨K.1 _ (by decide), rfl⟩⟩
      · refine X_astore_n (lv' := [(1, .ref q), (0, .ref a)]) C dTi_caughtWord_10 (by decide) rfl ?_
        refine X_aload_n C dTi_caughtWord_11 rfl ?_
        refine X_get (k := 2) C oWa fwTi_309 he2 hv2 dTi_caughtWord_12 ?_
        rw [← Option.some.inj hR]
        exact X_iret C hr (Nat.le_refl _) (Nat.le_refl _) dTi_caughtWord_15 ⟨rfl, rfl, hz⟩
    · rw [if_neg c2] at hR
      by_cases c3 : r.2.1 = 3
      · rw [if_pos c3] at hR
        rw [c3]
        have hq := o_bind hR
        clear hR
        obtain ⟨u2, hx2, hR⟩ := hq
        obtain ⟨fs2, he2, hv2⟩ := gi_e hx2
        refine X_catch (hp := 16) C ?_ (fun q => ?_)
        · rw [htb]
          exact Or.inr ⟨by decide, by decide, yEx 2, C.2.2.2.2.1 _ kl_Ti_259, Or.inr ⟨K.2.2.2.1, Or.inr ⟨by decide, by decide, yEx 3, C.2.2.2.2.1 _ kl_Ti_315, Or.inl ⟨K.1 _ (by decide), rfl⟩⟩⟩⟩
        · refine X_astore_n (lv' := [(1, .ref q), (0, .ref a)]) C dTi_caughtWord_16 (by decide) rfl ?_
          refine X_aload_n C dTi_caughtWord_17 rfl ?_
          refine X_get (k := 2) C oWa fwTi_309 he2 hv2 dTi_caughtWord_18 ?_
          refine X_ineg C dTi_caughtWord_21 ?_
          rw [← Option.some.inj hR]
          exact X_iret C hr (Nat.le_refl _) (Nat.le_refl _) dTi_caughtWord_22 ⟨rfl, rfl, hz⟩
      · rw [if_neg c3] at hR
        cases hR
theorem Ti_caughtWord_c {l : Launch} (hst : l.stackTraces = false) {G : xG} {B sz : Nat} {Y : Nat → Nat} {n : Nat} {y0 : Option Nat} {h : xH} {R : Int32 × xH} (hR : Ti_caughtWord_f n y0 h = some R) : yConW l yTi_caughtWord cTi_caughtWord 2 (some .int) [(0, 7, 10, 259), (0, 7, 16, 315)] 7 102 1 6 G B Y [va_rf y0] h sz (kL (some (.int R.1)) R.2 sz) := yConW.of (by decide) (by simp [lg_sl, rf_cat, cat_i, cat_r, cat_l]) (fun F e C K hr htb => X_sub (lv' := [(0, va_rf y0)]) [0] (by simp [lv_args, lv_pick, rf_cat, cat_i, cat_r, cat_l]) (Ti_caughtWord_x C K (by rw [e]; exact hst) hr htb hR))
theorem clTi_95 : Cond.classLink RTi 95 "TimedYard$Way" ∈ xtbl := mem_x 266 (by decide +kernel) (by decide +kernel)
def Ti_toss_f (n : Nat) (o : Nat) (x1 : Int32) (h : xH) : Option (Int32 × xH) := obd (Ti_isShelf_f n (x1) h) (fun r1 => (if r1.1 = 0 then some (((-1) : Int32), r1.2) else obd (gq r1.2 (o) 4 3) (fun w3 => obd w3 (fun a8 => obd (aq r1.2 (a8) 8 (x1)) (fun w9 => oel (w9) (some (((-11) : Int32), r1.2)) (fun a16 => obd (gq r1.2 (o) 4 3) (fun w18 => obd w18 (fun a23 => obd (aq r1.2 (a23) 8 (x1)) (fun w24 => oel (w24) (some (((-12) : Int32), r1.2)) (fun a31 => (if kc r1.2 (a31) 6 = true then some (((-12) : Int32), r1.2) else (if kc r1.2 (a31) 7 = true then (if kc r1.2 (a31) 7 = true then obd (Ti_caughtWord_f n (some (a31)) r1.2) (fun r42 => some (r42.1, r42.2)) else none) else (if kc r1.2 (a31) 8 = true then some (((-12) : Int32), r1.2) else (if kc r1.2 (a31) 9 = true then some (((-12) : Int32), r1.2) else none))))))))))))))
set_option maxRecDepth 100000 in
set_option maxHeartbeats 8000000 in
theorem Ti_toss_x {F : xF} {G : xG} {B sz : Nat} {Y : Nat → Nat} {o : Nat} (C : xC F G B cTi_toss RTi 4 8 130 1 6) (K : yK B Y (xFs F)) (hst : (xFl F).stackTraces = false) (hr : (xFM F).sig.returnType = (some .int)) {n : Nat} {x1 : Int32} {h : xH} {R : Int32 × xH} (hR : Ti_toss_f n o x1 h = some R) : X F G B (xZ F G B (kL (some (.int R.1)) R.2 sz) 1 6) 4 h sz 0 0 0 [(0, .ref (o)), (1, .int (x1))] [] := by
  unfold Ti_toss_f at hR
  refine X_iload_n C dTi_toss_0 rfl ?_
  have hq := o_bind hR
  clear hR
  obtain ⟨r1, hr1, hR⟩ := hq
  refine X_callSk (As := [.int (x1)]) (rest := []) C (Ti_isShelf_c hr1) wTi_231 ⟨by decide, by decide⟩ ⟨Nat.zero_le _, Nat.zero_le _⟩ rfl rfl (Nat.le_of_ble_eq_true rfl) dTi_toss_1 ?_
  show X F G B _ 4 (r1.2) _ _ _ _ _ [.int (r1.1)]
  refine X_if_ne (tgt := 9) C dTi_toss_4 (by decide) (fun c2 => ?_) (fun c2 => ?_)
  · rw [if_neg c2] at hR
    refine X_aload_n C dTi_toss_9 rfl ?_
    have hq := o_bind hR
    clear hR
    obtain ⟨w3, hx7, hR⟩ := hq
    obtain ⟨fs4, he5, hv6⟩ := gq_e hx7
    refine X_get (k := 3) C oTi fwTi_34 he5 hv6 dTi_toss_10 ?_
    refine X_iload_n C dTi_toss_13 rfl ?_
    have hq := o_bind hR
    clear hR
    obtain ⟨a8, rfl, hR⟩ := hq
    have hq := o_bind hR
    clear hR
    obtain ⟨w9, hx10, hR⟩ := hq
    obtain ⟨n11, f12, he13, hi14, e15⟩ := aq_e hx10
    refine X_aald C rfl he13 hi14 dTi_toss_14 ?_
    rw [← e15]
    refine X_ifnonnullq (tgt := 21) C dTi_toss_15 (by decide) (fun a16 e17 => ?_) (fun e17 => ?_)
    · subst e17
      rw [oel_s] at hR
      refine X_aload_n C dTi_toss_21 rfl ?_
      have hq := o_bind hR
      clear hR
      obtain ⟨w18, hx22, hR⟩ := hq
      obtain ⟨fs19, he20, hv21⟩ := gq_e hx22
      refine X_get (k := 3) C oTi fwTi_34 he20 hv21 dTi_toss_22 ?_
      refine X_iload_n C dTi_toss_25 rfl ?_
      have hq := o_bind hR
      clear hR
      obtain ⟨a23, rfl, hR⟩ := hq
      have hq := o_bind hR
      clear hR
      obtain ⟨w24, hx25, hR⟩ := hq
      obtain ⟨n26, f27, he28, hi29, e30⟩ := aq_e hx25
      refine X_aald C rfl he28 hi29 dTi_toss_26 ?_
      rw [← e30]
      refine X_astore_nq (lv' := [(3, va_rf (w24)), (0, .ref (o)), (1, .int (x1))]) C dTi_toss_27 (by decide) rfl ?_
      refine X_aload_nq C dTi_toss_28 rfl ?_
      cases w24 with
      | none =>
        rw [oel_n] at hR
        refine X_inst0 C dTi_toss_29 ?_
        refine X_if_eq (tgt := 45) C dTi_toss_32 (by decide) (fun _ => ?_) (fun c => absurd c (by decide))
        refine X_bipush (v := (-12)) C dTi_toss_45 (by decide) ?_
        rw [← Option.some.inj hR]
        exact X_iret C hr (by first | exact Nat.zero_le _ | exact Nat.le_refl _) (by first | exact Nat.zero_le _ | exact Nat.le_refl _) dTi_toss_47 ⟨rfl, rfl, by first | exact hz9 | exact Nat.le_refl _⟩
      | some a31 =>
        rw [oel_s] at hR
        by_cases k33 : kc r1.2 (a31) 6 = true
        · rw [if_pos k33] at hR
          obtain ⟨fs34, he35⟩ := kc_e k33
          refine X_instNo C oPl.2.1 (by decide) clTi_95 he35 dTi_toss_29 ?_
          refine X_if_eq (tgt := 45) C dTi_toss_32 (by decide) (fun _ => ?_) (fun c => absurd c (by decide))
          refine X_bipush (v := (-12)) C dTi_toss_45 (by decide) ?_
          rw [← Option.some.inj hR]
          exact X_iret C hr (by first | exact Nat.zero_le _ | exact Nat.le_refl _) (by first | exact Nat.zero_le _ | exact Nat.le_refl _) dTi_toss_47 ⟨rfl, rfl, by first | exact hz9 | exact Nat.le_refl _⟩
        · rw [if_neg k33] at hR
          by_cases k36 : kc r1.2 (a31) 7 = true
          · rw [if_pos k36] at hR
            obtain ⟨fs37, he38⟩ := kc_e k36
            refine X_instY C oWa.2.1 (by decide) clTi_95 he38 dTi_toss_29 ?_
            refine X_if_eq (tgt := 45) C dTi_toss_32 (by decide) (fun c => absurd c (by decide)) (fun _ => ?_)
            refine X_aload_n C dTi_toss_35 rfl ?_
            by_cases k39 : kc r1.2 (a31) 7 = true
            · rw [if_pos k39] at hR
              obtain ⟨fs40, he41⟩ := kc_e k39
              refine X_castY C oWa.2.1 (by decide) clTi_95 he41 dTi_toss_36 ?_
              refine X_astore_n (lv' := [(2, .ref (a31)), (3, .ref (a31)), (0, .ref (o)), (1, .int (x1))]) C dTi_toss_39 (by decide) rfl ?_
              refine X_aload_n C dTi_toss_40 rfl ?_
              have hq := o_bind hR
              clear hR
              obtain ⟨r42, hr42, hR⟩ := hq
              refine X_callSw (As := [.ref (a31)]) (rest := []) C K (Ti_caughtWord_c hst hr42) wTi_271 ⟨by decide, by decide⟩ ⟨by decide, by decide⟩ rfl rfl (Nat.le_of_ble_eq_true rfl) dTi_toss_41 (fun v9 h9 z9 q9 => ?_)
              obtain ⟨rfl, rfl, hz9⟩ := q9
              show X F G B _ 4 (r42.2) _ _ _ _ _ [.int r42.1]
              rw [← Option.some.inj hR]
              exact X_iret C hr (by first | exact Nat.zero_le _ | exact Nat.le_refl _) (by first | exact Nat.zero_le _ | exact Nat.le_refl _) dTi_toss_44 ⟨rfl, rfl, by first | exact hz9 | exact Nat.le_refl _⟩
            · rw [if_neg k39] at hR
              cases hR
          · rw [if_neg k36] at hR
            by_cases k43 : kc r1.2 (a31) 8 = true
            · rw [if_pos k43] at hR
              obtain ⟨fs44, he45⟩ := kc_e k43
              refine X_instNo C oSr.2.1 (by decide) clTi_95 he45 dTi_toss_29 ?_
              refine X_if_eq (tgt := 45) C dTi_toss_32 (by decide) (fun _ => ?_) (fun c => absurd c (by decide))
              refine X_bipush (v := (-12)) C dTi_toss_45 (by decide) ?_
              rw [← Option.some.inj hR]
              exact X_iret C hr (by first | exact Nat.zero_le _ | exact Nat.le_refl _) (by first | exact Nat.zero_le _ | exact Nat.le_refl _) dTi_toss_47 ⟨rfl, rfl, by first | exact hz9 | exact Nat.le_refl _⟩
            · rw [if_neg k43] at hR
              by_cases k46 : kc r1.2 (a31) 9 = true
              · rw [if_pos k46] at hR
                obtain ⟨fs47, he48⟩ := kc_e k46
                refine X_instNo C oLr.2.1 (by decide) clTi_95 he48 dTi_toss_29 ?_
                refine X_if_eq (tgt := 45) C dTi_toss_32 (by decide) (fun _ => ?_) (fun c => absurd c (by decide))
                refine X_bipush (v := (-12)) C dTi_toss_45 (by decide) ?_
                rw [← Option.some.inj hR]
                exact X_iret C hr (by first | exact Nat.zero_le _ | exact Nat.le_refl _) (by first | exact Nat.zero_le _ | exact Nat.le_refl _) dTi_toss_47 ⟨rfl, rfl, by first | exact hz9 | exact Nat.le_refl _⟩
              · rw [if_neg k46] at hR
                cases hR
    · subst e17
      rw [oel_n] at hR
      refine X_bipush (v := (-11)) C dTi_toss_18 (by decide) ?_
      rw [← Option.some.inj hR]
      exact X_iret C hr (by first | exact Nat.zero_le _ | exact Nat.le_refl _) (by first | exact Nat.zero_le _ | exact Nat.le_refl _) dTi_toss_20 ⟨rfl, rfl, by first | exact hz9 | exact Nat.le_refl _⟩
  · rw [if_pos c2] at hR
    refine X_iconst (v := (-1)) C dTi_toss_7 rfl ?_
    rw [← Option.some.inj hR]
    exact X_iret C hr (by first | exact Nat.zero_le _ | exact Nat.le_refl _) (by first | exact Nat.zero_le _ | exact Nat.le_refl _) dTi_toss_8 ⟨rfl, rfl, by first | exact hz9 | exact Nat.le_refl _⟩
theorem Ti_toss_c {l : Launch} (hst : l.stackTraces = false) {G : xG} {B sz : Nat} {Y : Nat → Nat} {o : Nat} {n : Nat} {x1 : Int32} {h : xH} {R : Int32 × xH} (hR : Ti_toss_f n o x1 h = some R) : yCon l yTi_toss cTi_toss 4 (some .int) 8 130 1 6 G B Y [.ref (o), .int (x1)] h sz (kL (some (.int R.1)) R.2 sz) := yCon.of (by decide) (by exact Nat.le_of_ble_eq_true rfl) (fun F e C K hr => X_sub (lv' := [(0, .ref (o)), (1, .int (x1))]) [0, 1] rfl (Ti_toss_x C K (by rw [e]; exact hst) hr hR))
def L_bound_f (n : Nat) (y0 : Option Nat) (x1 : Int32) (x2 : Int32) (x3 : Int32) (y4 : Option Nat) (h : xH) : Option (Int32 × xH) := obd y0 (fun o => obd y4 (fun a => if kc h o 4 = true then obd (Ti_bound_f n o x1 x2 x3 h) (fun r => if r.2.1 = 0 then obd (pl r.2.2 a 0 (Int32.toInt64 r.1)) (fun h2 => some (0, h2)) else if r.2.1 = 1 then some (1, r.2.2) else none) else none))
set_option maxRecDepth 100000 in
set_option maxHeartbeats 8000000 in
theorem L_bound_x {F : xF} {G : xG} {B sz : Nat} {Y : Nat → Nat} (C : xC F G B cL_bound RL 6 7 106 1 6) (K : yK B Y (xFs F)) (hst : (xFl F).stackTraces = false) (hr : (xFM F).sig.returnType = (some .int)) (htb : (xFc F).exceptionTable.toList = tableOf [(0, 12, 15, 13)]) {n : Nat} {y0 : Option Nat} {x1 : Int32} {x2 : Int32} {x3 : Int32} {y4 : Option Nat} {h : xH} {R : Int32 × xH} (hR : L_bound_f n y0 x1 x2 x3 y4 h = some R) : X F G B (xZ F G B (kL (some (.int R.1)) R.2 sz) 1 6) 6 h sz 0 0 0 [(0, va_rf y0), (1, .int x1), (2, .int x2), (3, .int x3), (4, va_rf y4)] [] := by
  unfold L_bound_f at hR
  have hq := o_bind hR
  clear hR
  obtain ⟨o, rfl, hR⟩ := hq
  have hq := o_bind hR
  clear hR
  obtain ⟨a, rfl, hR⟩ := hq
  have hq := o_if hR
  clear hR
  obtain ⟨hk, hR⟩ := hq
  obtain ⟨fs, he⟩ := kc_e hk
  have hq := o_bind hR
  clear hR
  obtain ⟨r, ht, hR⟩ := hq
  refine X_sub (lv' := [(0, .ref o), (1, .int x1), (2, .int x2), (3, .int x3), (4, .ref a)]) [0, 1, 2, 3, 4] rfl ?_
  refine X_aload C dL_bound_0 rfl ?_
  refine X_iconst (v := 0) C dL_bound_2 rfl ?_
  refine X_aload_n C dL_bound_3 rfl ?_
  refine X_iload_n C dL_bound_4 rfl ?_
  refine X_iload_n C dL_bound_5 rfl ?_
  refine X_iload_n C dL_bound_6 rfl ?_
  refine X_callVt (As := [.int x1, .int x2, .int x3]) (rest := [.int 0, .ref a]) C K (Ti_bound_c hst ht) wL_7 ⟨by decide, by decide⟩ ⟨by decide, by decide⟩ he oTi.2.1 rfl rfl (Nat.le_of_ble_eq_true rfl) dL_bound_7 (fun c0 => ?_) (fun c0 z' hz => ?_)
  · rw [if_pos c0] at hR
    have hq := o_bind hR
    clear hR
    obtain ⟨h2, hp, hR⟩ := hq
    obtain ⟨n2, f2, he2, hi2, e2⟩ := pl_e hp
    show X F G B _ 6 r.2.2 _ _ _ _ _ [.int r.1, .int 0, .ref a]
    refine X_i2l C dL_bound_10 ?_
    refine X_last C rfl he2 hi2 dL_bound_11 ?_
    rw [← e2]
    refine X_goto (tgt := 19) C dL_bound_12 (by decide) ?_
    refine X_iconst (v := 0) C dL_bound_19 rfl ?_
    rw [← Option.some.inj hR]
    exact X_iret C hr (Nat.le_refl _) (Nat.le_refl _) dL_bound_20 ⟨rfl, rfl, Nat.le_refl _⟩
  · rw [if_neg c0] at hR
    by_cases c1 : r.2.1 = 1
    · rw [if_pos c1] at hR
      rw [c1]
      refine X_catch (hp := 15) C ?_ (fun q => ?_)
      · rw [htb]
        exact Or.inr ⟨by decide, by decide, yEx 1, C.2.2.2.2.1 _ kl_L_13, Or.inl ⟨K.1 _ (by decide), rfl⟩⟩
      · refine X_astore (lv' := (5, .ref q) :: [(0, .ref o), (1, .int x1), (2, .int x2), (3, .int x3), (4, .ref a)]) C dL_bound_15 (by decide) rfl ?_
        refine X_iconst (v := 1) C dL_bound_17 rfl ?_
        rw [← Option.some.inj hR]
        exact X_iret C hr (Nat.le_refl _) (Nat.le_refl _) dL_bound_18 ⟨rfl, rfl, hz⟩
    · rw [if_neg c1] at hR
      cases hR
theorem L_bound_c {l : Launch} (hst : l.stackTraces = false) {G : xG} {B sz : Nat} {Y : Nat → Nat} {n : Nat} {y0 : Option Nat} {x1 : Int32} {x2 : Int32} {x3 : Int32} {y4 : Option Nat} {h : xH} {R : Int32 × xH} (hR : L_bound_f n y0 x1 x2 x3 y4 h = some R) : yConW l yL_bound cL_bound 6 (some .int) [(0, 12, 15, 13)] 7 106 1 6 G B Y [va_rf y0, .int x1, .int x2, .int x3, va_rf y4] h sz (kL (some (.int R.1)) R.2 sz) := yConW.of (by decide) (by simp [lg_sl, rf_cat, cat_i, cat_r, cat_l]) (fun F e C K hr htb => X_sub (lv' := [(0, va_rf y0), (1, .int x1), (2, .int x2), (3, .int x3), (4, va_rf y4)]) [0, 1, 2, 3, 4] (by simp [lv_args, lv_pick, rf_cat, cat_i, cat_r, cat_l]) (L_bound_x C K (by rw [e]; exact hst) hr htb hR))
def L_handBound_f (n : Nat) (y0 : Option Nat) (x1 : Int32) (x2 : Int32) (y3 : Option Nat) (h : xH) : Option (Int32 × xH) := obd y0 (fun o => obd y3 (fun a => if kc h o 4 = true then obd (Ti_handBound_f n o x1 x2 h) (fun r => if r.2.1 = 0 then obd (pl r.2.2 a 0 (Int32.toInt64 r.1)) (fun h2 => some (0, h2)) else if r.2.1 = 1 then some (1, r.2.2) else none) else none))
set_option maxRecDepth 100000 in
set_option maxHeartbeats 8000000 in
theorem L_handBound_x {F : xF} {G : xG} {B sz : Nat} {Y : Nat → Nat} (C : xC F G B cL_handBound RL 5 7 104 1 6) (K : yK B Y (xFs F)) (hst : (xFl F).stackTraces = false) (hr : (xFM F).sig.returnType = (some .int)) (htb : (xFc F).exceptionTable.toList = tableOf [(0, 10, 13, 13)]) {n : Nat} {y0 : Option Nat} {x1 : Int32} {x2 : Int32} {y3 : Option Nat} {h : xH} {R : Int32 × xH} (hR : L_handBound_f n y0 x1 x2 y3 h = some R) : X F G B (xZ F G B (kL (some (.int R.1)) R.2 sz) 1 6) 5 h sz 0 0 0 [(0, va_rf y0), (1, .int x1), (2, .int x2), (3, va_rf y3)] [] := by
  unfold L_handBound_f at hR
  have hq := o_bind hR
  clear hR
  obtain ⟨o, rfl, hR⟩ := hq
  have hq := o_bind hR
  clear hR
  obtain ⟨a, rfl, hR⟩ := hq
  have hq := o_if hR
  clear hR
  obtain ⟨hk, hR⟩ := hq
  obtain ⟨fs, he⟩ := kc_e hk
  have hq := o_bind hR
  clear hR
  obtain ⟨r, ht, hR⟩ := hq
  refine X_sub (lv' := [(0, .ref o), (1, .int x1), (2, .int x2), (3, .ref a)]) [0, 1, 2, 3] rfl ?_
  refine X_aload_n C dL_handBound_0 rfl ?_
  refine X_iconst (v := 0) C dL_handBound_1 rfl ?_
  refine X_aload_n C dL_handBound_2 rfl ?_
  refine X_iload_n C dL_handBound_3 rfl ?_
  refine X_iload_n C dL_handBound_4 rfl ?_
  refine X_callVt (As := [.int x1, .int x2]) (rest := [.int 0, .ref a]) C K (Ti_handBound_c hst ht) wL_15 ⟨by decide, by decide⟩ ⟨by decide, by decide⟩ he oTi.2.1 rfl rfl (Nat.le_of_ble_eq_true rfl) dL_handBound_5 (fun c0 => ?_) (fun c0 z' hz => ?_)
  · rw [if_pos c0] at hR
    have hq := o_bind hR
    clear hR
    obtain ⟨h2, hp, hR⟩ := hq
    obtain ⟨n2, f2, he2, hi2, e2⟩ := pl_e hp
    show X F G B _ 5 r.2.2 _ _ _ _ _ [.int r.1, .int 0, .ref a]
    refine X_i2l C dL_handBound_8 ?_
    refine X_last C rfl he2 hi2 dL_handBound_9 ?_
    rw [← e2]
    refine X_goto (tgt := 17) C dL_handBound_10 (by decide) ?_
    refine X_iconst (v := 0) C dL_handBound_17 rfl ?_
    rw [← Option.some.inj hR]
    exact X_iret C hr (Nat.le_refl _) (Nat.le_refl _) dL_handBound_18 ⟨rfl, rfl, Nat.le_refl _⟩
  · rw [if_neg c0] at hR
    by_cases c1 : r.2.1 = 1
    · rw [if_pos c1] at hR
      rw [c1]
      refine X_catch (hp := 13) C ?_ (fun q => ?_)
      · rw [htb]
        exact Or.inr ⟨by decide, by decide, yEx 1, C.2.2.2.2.1 _ kl_L_13, Or.inl ⟨K.1 _ (by decide), rfl⟩⟩
      · refine X_astore (lv' := (4, .ref q) :: [(0, .ref o), (1, .int x1), (2, .int x2), (3, .ref a)]) C dL_handBound_13 (by decide) rfl ?_
        refine X_iconst (v := 1) C dL_handBound_15 rfl ?_
        rw [← Option.some.inj hR]
        exact X_iret C hr (Nat.le_refl _) (Nat.le_refl _) dL_handBound_16 ⟨rfl, rfl, hz⟩
    · rw [if_neg c1] at hR
      cases hR
theorem L_handBound_c {l : Launch} (hst : l.stackTraces = false) {G : xG} {B sz : Nat} {Y : Nat → Nat} {n : Nat} {y0 : Option Nat} {x1 : Int32} {x2 : Int32} {y3 : Option Nat} {h : xH} {R : Int32 × xH} (hR : L_handBound_f n y0 x1 x2 y3 h = some R) : yConW l yL_handBound cL_handBound 5 (some .int) [(0, 10, 13, 13)] 7 104 1 6 G B Y [va_rf y0, .int x1, .int x2, va_rf y3] h sz (kL (some (.int R.1)) R.2 sz) := yConW.of (by decide) (by simp [lg_sl, rf_cat, cat_i, cat_r, cat_l]) (fun F e C K hr htb => X_sub (lv' := [(0, va_rf y0), (1, .int x1), (2, .int x2), (3, va_rf y3)]) [0, 1, 2, 3] (by simp [lv_args, lv_pick, rf_cat, cat_i, cat_r, cat_l]) (L_handBound_x C K (by rw [e]; exact hst) hr htb hR))
def L_element_f (n : Nat) (y0 : Option Nat) (x1 : Int32) (x2 : Int32) (y3 : Option Nat) (h : xH) : Option (Int32 × xH) := obd y0 (fun o => obd y3 (fun a => if kc h o 4 = true then obd (Ti_element_f n o x1 x2 h) (fun r => if r.2.1 = 0 then obd (pl r.2.2 a 0 (r.1)) (fun h2 => some (0, h2)) else if r.2.1 = 1 then some (1, r.2.2) else if r.2.1 = 2 then some (2, r.2.2) else none) else none))
set_option maxRecDepth 100000 in
set_option maxHeartbeats 8000000 in
theorem L_element_x {F : xF} {G : xG} {B sz : Nat} {Y : Nat → Nat} (C : xC F G B cL_element RL 5 7 106 1 6) (K : yK B Y (xFs F)) (hst : (xFl F).stackTraces = false) (hr : (xFM F).sig.returnType = (some .int)) (htb : (xFc F).exceptionTable.toList = tableOf [(0, 9, 12, 13), (0, 9, 16, 23)]) {n : Nat} {y0 : Option Nat} {x1 : Int32} {x2 : Int32} {y3 : Option Nat} {h : xH} {R : Int32 × xH} (hR : L_element_f n y0 x1 x2 y3 h = some R) : X F G B (xZ F G B (kL (some (.int R.1)) R.2 sz) 1 6) 5 h sz 0 0 0 [(0, va_rf y0), (1, .int x1), (2, .int x2), (3, va_rf y3)] [] := by
  unfold L_element_f at hR
  have hq := o_bind hR
  clear hR
  obtain ⟨o, rfl, hR⟩ := hq
  have hq := o_bind hR
  clear hR
  obtain ⟨a, rfl, hR⟩ := hq
  have hq := o_if hR
  clear hR
  obtain ⟨hk, hR⟩ := hq
  obtain ⟨fs, he⟩ := kc_e hk
  have hq := o_bind hR
  clear hR
  obtain ⟨r, ht, hR⟩ := hq
  refine X_sub (lv' := [(0, .ref o), (1, .int x1), (2, .int x2), (3, .ref a)]) [0, 1, 2, 3] rfl ?_
  refine X_aload_n C dL_element_0 rfl ?_
  refine X_iconst (v := 0) C dL_element_1 rfl ?_
  refine X_aload_n C dL_element_2 rfl ?_
  refine X_iload_n C dL_element_3 rfl ?_
  refine X_iload_n C dL_element_4 rfl ?_
  refine X_callVt (As := [.int x1, .int x2]) (rest := [.int 0, .ref a]) C K (Ti_element_c hst ht) wL_19 ⟨by decide, by decide⟩ ⟨by decide, by decide⟩ he oTi.2.1 rfl rfl (Nat.le_of_ble_eq_true rfl) dL_element_5 (fun c0 => ?_) (fun c0 z' hz => ?_)
  · rw [if_pos c0] at hR
    have hq := o_bind hR
    clear hR
    obtain ⟨h2, hp, hR⟩ := hq
    obtain ⟨n2, f2, he2, hi2, e2⟩ := pl_e hp
    show X F G B _ 5 r.2.2 _ _ _ _ _ [.long r.1, .int 0, .ref a]
    refine X_last C rfl he2 hi2 dL_element_8 ?_
    rw [← e2]
    refine X_goto (tgt := 20) C dL_element_9 (by decide) ?_
    refine X_iconst (v := 0) C dL_element_20 rfl ?_
    rw [← Option.some.inj hR]
    exact X_iret C hr (Nat.le_refl _) (Nat.le_refl _) dL_element_21 ⟨rfl, rfl, Nat.le_refl _⟩
  · rw [if_neg c0] at hR
    by_cases c1 : r.2.1 = 1
    · rw [if_pos c1] at hR
      rw [c1]
      refine X_catch (hp := 12) C ?_ (fun q => ?_)
      · rw [htb]
        exact Or.inr ⟨by decide, by decide, yEx 1, C.2.2.2.2.1 _ kl_L_13, Or.inl ⟨K.1 _ (by decide), rfl⟩⟩
      · refine X_astore (lv' := (4, .ref q) :: [(0, .ref o), (1, .int x1), (2, .int x2), (3, .ref a)]) C dL_element_12 (by decide) rfl ?_
        refine X_iconst (v := 1) C dL_element_14 rfl ?_
        rw [← Option.some.inj hR]
        exact X_iret C hr (Nat.le_refl _) (Nat.le_refl _) dL_element_15 ⟨rfl, rfl, hz⟩
    · rw [if_neg c1] at hR
      by_cases c2 : r.2.1 = 2
      · rw [if_pos c2] at hR
        rw [c2]
        refine X_catch (hp := 16) C ?_ (fun q => ?_)
        · rw [htb]
          exact Or.inr ⟨by decide, by decide, yEx 1, C.2.2.2.2.1 _ kl_L_13, Or.inr ⟨K.2.2.1, Or.inr ⟨by decide, by decide, yEx 2, C.2.2.2.2.1 _ kl_L_23, Or.inl ⟨K.1 _ (by decide), rfl⟩⟩⟩⟩
        · refine X_astore (lv' := (4, .ref q) :: [(0, .ref o), (1, .int x1), (2, .int x2), (3, .ref a)]) C dL_element_16 (by decide) rfl ?_
          refine X_iconst (v := 2) C dL_element_18 rfl ?_
          rw [← Option.some.inj hR]
          exact X_iret C hr (Nat.le_refl _) (Nat.le_refl _) dL_element_19 ⟨rfl, rfl, hz⟩
      · rw [if_neg c2] at hR
        cases hR
theorem L_element_c {l : Launch} (hst : l.stackTraces = false) {G : xG} {B sz : Nat} {Y : Nat → Nat} {n : Nat} {y0 : Option Nat} {x1 : Int32} {x2 : Int32} {y3 : Option Nat} {h : xH} {R : Int32 × xH} (hR : L_element_f n y0 x1 x2 y3 h = some R) : yConW l yL_element cL_element 5 (some .int) [(0, 9, 12, 13), (0, 9, 16, 23)] 7 106 1 6 G B Y [va_rf y0, .int x1, .int x2, va_rf y3] h sz (kL (some (.int R.1)) R.2 sz) := yConW.of (by decide) (by simp [lg_sl, rf_cat, cat_i, cat_r, cat_l]) (fun F e C K hr htb => X_sub (lv' := [(0, va_rf y0), (1, .int x1), (2, .int x2), (3, va_rf y3)]) [0, 1, 2, 3] (by simp [lv_args, lv_pick, rf_cat, cat_i, cat_r, cat_l]) (L_element_x C K (by rw [e]; exact hst) hr htb hR))
