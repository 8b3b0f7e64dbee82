/-! the class's methods that throw or call abstract ones -/
section YKk
variable {F : xF} {G : xG} {B : Nat} {Y : Nat → Nat} {Q : State → Prop} {nL fr lo mc ms : Nat} {h : xH} {sz cs ss pc : Nat} {lv : List (Nat × Value)} {cc : ByteArray} {own : String}
variable {y x : MethodName} {cc' : ByteArray} {nL' fr' lo' idx n : Nat} {ret : Option FieldType} {As rest st0 : List Value} {r : Option Value} {h1 : xH}
theorem X_callUk (C : xC F G B cc own nL fr lo mc ms) (K : yK B Y (xFs F)) {b ci N : Nat} {fs : List Value} {Cn : String} {T : u_T} (hM : xCon (xFl F) y cc' nL' ret fr' lo' 0 0 G B (.ref b :: As) h sz (kP r h1 sz)) (hV : xU own idx Cn x y cc' nL' ret n) (hroom : fr' + 1 ≤ fr ∧ 8 + (nL' + 11) + lo' ≤ lo) (hcs : cs ≤ mc ∧ ss ≤ ms) (he : h b = some (.inr (ci, fs))) (hc : xCl[ci]? = some (Cn, T, N)) (hn : As.length = n) (hst : st0 = As.reverse ++ .ref b :: rest) (h8 : (rest.map fun v => v.category).sum ≤ 8) (d : decode cc pc = .ok (.invokevirtual idx, 3)) (kk : X F G B Q nL h1 sz cs ss (pc + 3) lv (r.toList ++ rest)) : X F G B Q nL h sz cs ss pc lv st0 := X_callU C K hM hV hroom hcs he hc hn hst h8 d (fun v h' z q => by obtain ⟨rfl, rfl, rfl⟩ := q; exact kk)
theorem X_callSyk (C : xC F G B cc own nL fr lo mc ms) (K : yK B Y (xFs F)) (hM : yCon (xFl F) y cc' nL' ret fr' lo' 0 0 G B Y As h sz (kP r h1 sz)) (hV : xS own idx y cc' nL' ret n) (hroom : fr' + 1 ≤ fr ∧ 8 + (nL' + 11) + lo' ≤ lo) (hcs : cs ≤ mc ∧ ss ≤ ms) (hn : As.length = n) (hst : st0 = As.reverse ++ rest) (h8 : (rest.map fun v => v.category).sum ≤ 8) (d : decode cc pc = .ok (.invokestatic idx, 3)) (kk : X F G B Q nL h1 sz cs ss (pc + 3) lv (r.toList ++ rest)) : X F G B Q nL h sz cs ss pc lv st0 := X_callSy C K hM hV hroom hcs hn hst h8 d (fun v h' z q => by obtain ⟨rfl, rfl, rfl⟩ := q; exact kk)
end YKk
def Lr_giveTo_f (n : Nat) (o : Nat) (x1 : Int32) (y2 : Option Nat) (x3 : Int32) (x4 : Int32) (h : xH) : Option (Int32 × xH) := oel (y2) (some (0, h)) (fun a1 => (if kc h (a1) 8 = true then some (0, h) else (if kc h (a1) 9 = true then (if kc h (a1) 9 = true then obd (gq h (o) 9 0) (fun w12 => obd (gq h (a1) 9 0) (fun w17 => obd w12 (fun a22 => obd w17 (fun a23 => obd (cpl h (a22) (x1) (a23) (x3) (x4)) (fun h24 => some (0, h24)))))) else none) else none)))
set_option maxRecDepth 100000 in
set_option maxHeartbeats 8000000 in
theorem Lr_giveTo_x {F : xF} {G : xG} {B sz : Nat} {o : Nat} (C : xC F G B cLr_giveTo RLr 6 1 40 0 0) (hr : (xFM F).sig.returnType = none) {n : Nat} {x1 : Int32} {y2 : Option Nat} {x3 : Int32} {x4 : Int32} {h : xH} {R : Int32 × xH} (hR : Lr_giveTo_f n o x1 y2 x3 x4 h = some R) : X F G B (xZ F G B (kP none R.2 sz) 0 0) 6 h sz 0 0 0 [(0, .ref (o)), (1, .int (x1)), (2, va_rf (y2)), (3, .int (x3)), (4, .int (x4))] [] := by
  unfold Lr_giveTo_f at hR
  refine X_aload_nq C dLr_giveTo_0 rfl ?_
  cases y2 with
  | none =>
    rw [oel_n] at hR
    refine X_inst0 C dLr_giveTo_1 ?_
    refine X_if_eq (tgt := 29) C dLr_giveTo_4 (by decide) (fun _ => ?_) (fun c => absurd c (by decide))
    rw [← Option.some.inj hR]
    exact X_vret C hr (Nat.le_refl _) (Nat.le_refl _) dLr_giveTo_29 ⟨rfl, rfl, rfl⟩
  | some a1 =>
    rw [oel_s] at hR
    by_cases k3 : kc h (a1) 8 = true
    · rw [if_pos k3] at hR
      obtain ⟨fs4, he5⟩ := kc_e k3
      refine X_instNo C oSr.2.1 (by decide) clLr_8 he5 dLr_giveTo_1 ?_
      refine X_if_eq (tgt := 29) C dLr_giveTo_4 (by decide) (fun _ => ?_) (fun c => absurd c (by decide))
      rw [← Option.some.inj hR]
      exact X_vret C hr (Nat.le_refl _) (Nat.le_refl _) dLr_giveTo_29 ⟨rfl, rfl, rfl⟩
    · rw [if_neg k3] at hR
      by_cases k6 : kc h (a1) 9 = true
      · rw [if_pos k6] at hR
        obtain ⟨fs7, he8⟩ := kc_e k6
        refine X_instY C oLr.2.1 (by decide) clLr_8 he8 dLr_giveTo_1 ?_
        refine X_if_eq (tgt := 29) C dLr_giveTo_4 (by decide) (fun c => absurd c (by decide)) (fun _ => ?_)
        refine X_aload_n C dLr_giveTo_7 rfl ?_
        by_cases k9 : kc h (a1) 9 = true
        · rw [if_pos k9] at hR
          obtain ⟨fs10, he11⟩ := kc_e k9
          refine X_castY C oLr.2.1 (by decide) clLr_8 he11 dLr_giveTo_8 ?_
          refine X_astore (lv' := [(5, .ref (a1)), (0, .ref (o)), (1, .int (x1)), (2, .ref (a1)), (3, .int (x3)), (4, .int (x4))]) C dLr_giveTo_11 (by decide) rfl ?_
          refine X_aload_n C dLr_giveTo_13 rfl ?_
          have hq := o_bind hR
          clear hR
          obtain ⟨w12, hx16, hR⟩ := hq
          obtain ⟨fs13, he14, hv15⟩ := gq_e hx16
          refine X_get (k := 0) C oLr fwLr_7 he14 hv15 dLr_giveTo_14 ?_
          refine X_iload_n C dLr_giveTo_17 rfl ?_
          refine X_aload C dLr_giveTo_18 rfl ?_
          have hq := o_bind hR
          clear hR
          obtain ⟨w17, hx21, hR⟩ := hq
          obtain ⟨fs18, he19, hv20⟩ := gq_e hx21
          refine X_get (k := 0) C oLr fwLr_7 he19 hv20 dLr_giveTo_20 ?_
          refine X_iload_n C dLr_giveTo_23 rfl ?_
          refine X_iload C dLr_giveTo_24 rfl ?_
          have hq := o_bind hR
          clear hR
          obtain ⟨a22, rfl, hR⟩ := hq
          have hq := o_bind hR
          clear hR
          obtain ⟨a23, rfl, hR⟩ := hq
          have hq := o_bind hR
          clear hR
          obtain ⟨h24, hh25, hR⟩ := hq
          obtain ⟨n26, n27, n28, n29, n30, n31, n32, n33, n34, n35, n36, n37⟩ := cpl_e hh25
          refine X_copyl C cpLr_13 rfl n30 n31 n32 n33 n34 n35 n36 ⟨by decide, Nat.le_of_ble_eq_true rfl⟩ dLr_giveTo_26 ?_
          rw [← n37]
          rw [← Option.some.inj hR]
          exact X_vret C hr (Nat.le_refl _) (Nat.le_refl _) dLr_giveTo_29 ⟨rfl, rfl, rfl⟩
        · rw [if_neg k9] at hR
          cases hR
      · rw [if_neg k6] at hR
        cases hR
theorem Lr_giveTo_c {l : Launch} {G : xG} {B sz : Nat} {o : Nat} {n : Nat} {x1 : Int32} {y2 : Option Nat} {x3 : Int32} {x4 : Int32} {h : xH} {R : Int32 × xH} (hR : Lr_giveTo_f n o x1 y2 x3 x4 h = some R) : xCon l yLr_giveTo cLr_giveTo 6 none 1 40 0 0 G B [.ref (o), .int (x1), va_rf (y2), .int (x3), .int (x4)] h sz (kP none R.2 sz) := xCon.of (by decide) (by simp [lg_sl, rf_cat, cat_i, cat_r, cat_l]) (fun F e C hr hnm => X_sub (lv' := [(0, .ref (o)), (1, .int (x1)), (2, va_rf (y2)), (3, .int (x3)), (4, .int (x4))]) [0, 1, 2, 3, 4] (by simp [lv_args, lv_pick, rf_cat, cat_i, cat_r, cat_l]) (Lr_giveTo_x C hr hR))
def Sr_giveTo_f (n : Nat) (o : Nat) (x1 : Int32) (y2 : Option Nat) (x3 : Int32) (x4 : Int32) (h : xH) : Option (Int32 × xH) := oel (y2) (some (0, h)) (fun a1 => (if kc h (a1) 8 = true then (if kc h (a1) 8 = true then obd (gq h (o) 8 0) (fun w9 => obd (gq h (a1) 8 0) (fun w14 => obd w9 (fun a19 => obd w14 (fun a20 => obd (cps h (a19) (x1) (a20) (x3) (x4)) (fun h21 => some (0, h21)))))) else none) else (if kc h (a1) 9 = true then some (0, h) else none)))
set_option maxRecDepth 100000 in
set_option maxHeartbeats 8000000 in
theorem Sr_giveTo_x {F : xF} {G : xG} {B sz : Nat} {o : Nat} (C : xC F G B cSr_giveTo RSr 6 1 40 0 0) (hr : (xFM F).sig.returnType = none) {n : Nat} {x1 : Int32} {y2 : Option Nat} {x3 : Int32} {x4 : Int32} {h : xH} {R : Int32 × xH} (hR : Sr_giveTo_f n o x1 y2 x3 x4 h = some R) : X F G B (xZ F G B (kP none R.2 sz) 0 0) 6 h sz 0 0 0 [(0, .ref (o)), (1, .int (x1)), (2, va_rf (y2)), (3, .int (x3)), (4, .int (x4))] [] := by
  unfold Sr_giveTo_f at hR
  refine X_aload_nq C dSr_giveTo_0 rfl ?_
  cases y2 with
  | none =>
    rw [oel_n] at hR
    refine X_inst0 C dSr_giveTo_1 ?_
    refine X_if_eq (tgt := 29) C dSr_giveTo_4 (by decide) (fun _ => ?_) (fun c => absurd c (by decide))
    rw [← Option.some.inj hR]
    exact X_vret C hr (Nat.le_refl _) (Nat.le_refl _) dSr_giveTo_29 ⟨rfl, rfl, rfl⟩
  | some a1 =>
    rw [oel_s] at hR
    by_cases k3 : kc h (a1) 8 = true
    · rw [if_pos k3] at hR
      obtain ⟨fs4, he5⟩ := kc_e k3
      refine X_instY C oSr.2.1 (by decide) clSr_8 he5 dSr_giveTo_1 ?_
      refine X_if_eq (tgt := 29) C dSr_giveTo_4 (by decide) (fun c => absurd c (by decide)) (fun _ => ?_)
      refine X_aload_n C dSr_giveTo_7 rfl ?_
      by_cases k6 : kc h (a1) 8 = true
      · rw [if_pos k6] at hR
        obtain ⟨fs7, he8⟩ := kc_e k6
        refine X_castY C oSr.2.1 (by decide) clSr_8 he8 dSr_giveTo_8 ?_
        refine X_astore (lv' := [(5, .ref (a1)), (0, .ref (o)), (1, .int (x1)), (2, .ref (a1)), (3, .int (x3)), (4, .int (x4))]) C dSr_giveTo_11 (by decide) rfl ?_
        refine X_aload_n C dSr_giveTo_13 rfl ?_
        have hq := o_bind hR
        clear hR
        obtain ⟨w9, hx13, hR⟩ := hq
        obtain ⟨fs10, he11, hv12⟩ := gq_e hx13
        refine X_get (k := 0) C oSr fwSr_7 he11 hv12 dSr_giveTo_14 ?_
        refine X_iload_n C dSr_giveTo_17 rfl ?_
        refine X_aload C dSr_giveTo_18 rfl ?_
        have hq := o_bind hR
        clear hR
        obtain ⟨w14, hx18, hR⟩ := hq
        obtain ⟨fs15, he16, hv17⟩ := gq_e hx18
        refine X_get (k := 0) C oSr fwSr_7 he16 hv17 dSr_giveTo_20 ?_
        refine X_iload_n C dSr_giveTo_23 rfl ?_
        refine X_iload C dSr_giveTo_24 rfl ?_
        have hq := o_bind hR
        clear hR
        obtain ⟨a19, rfl, hR⟩ := hq
        have hq := o_bind hR
        clear hR
        obtain ⟨a20, rfl, hR⟩ := hq
        have hq := o_bind hR
        clear hR
        obtain ⟨h21, hh22, hR⟩ := hq
        obtain ⟨n23, n24, n25, n26, n27, n28, n29, n30, n31, n32, n33, n34, n35⟩ := cps_e hh22
        refine X_copys C cpSr_13 rfl n27 n28 n29 n30 n31 n32 n33 n34 ⟨by decide, Nat.le_of_ble_eq_true rfl⟩ dSr_giveTo_26 ?_
        rw [← n35]
        rw [← Option.some.inj hR]
        exact X_vret C hr (Nat.le_refl _) (Nat.le_refl _) dSr_giveTo_29 ⟨rfl, rfl, rfl⟩
      · rw [if_neg k6] at hR
        cases hR
    · rw [if_neg k3] at hR
      by_cases k36 : kc h (a1) 9 = true
      · rw [if_pos k36] at hR
        obtain ⟨fs37, he38⟩ := kc_e k36
        refine X_instNo C oLr.2.1 (by decide) clSr_8 he38 dSr_giveTo_1 ?_
        refine X_if_eq (tgt := 29) C dSr_giveTo_4 (by decide) (fun _ => ?_) (fun c => absurd c (by decide))
        rw [← Option.some.inj hR]
        exact X_vret C hr (Nat.le_refl _) (Nat.le_refl _) dSr_giveTo_29 ⟨rfl, rfl, rfl⟩
      · rw [if_neg k36] at hR
        cases hR
theorem Sr_giveTo_c {l : Launch} {G : xG} {B sz : Nat} {o : Nat} {n : Nat} {x1 : Int32} {y2 : Option Nat} {x3 : Int32} {x4 : Int32} {h : xH} {R : Int32 × xH} (hR : Sr_giveTo_f n o x1 y2 x3 x4 h = some R) : xCon l ySr_giveTo cSr_giveTo 6 none 1 40 0 0 G B [.ref (o), .int (x1), va_rf (y2), .int (x3), .int (x4)] h sz (kP none R.2 sz) := xCon.of (by decide) (by simp [lg_sl, rf_cat, cat_i, cat_r, cat_l]) (fun F e C hr hnm => X_sub (lv' := [(0, .ref (o)), (1, .int (x1)), (2, va_rf (y2)), (3, .int (x3)), (4, .int (x4))]) [0, 1, 2, 3, 4] (by simp [lv_args, lv_pick, rf_cat, cat_i, cat_r, cat_l]) (Sr_giveTo_x C hr hR))
def Ti_weight_f (n : Nat) (o : Nat) (x1 : Int32) (h : xH) : Option (Int32 × xH) := obd (Ti_isShelf_f n (x1) h) (fun r1 => (if r1.1 = 0 then some (((-1) : Int32), r1.2) else obd (gq r1.2 (o) 4 3) (fun w3 => obd w3 (fun a8 => obd (aq r1.2 (a8) 8 (x1)) (fun w9 => oel (w9) (some (((-11) : Int32), r1.2)) (fun a16 => (if kc r1.2 (a16) 6 = true then obd (Pl_heft_f n (a16) r1.2) (fun r19 => some (r19.1, r19.2)) else (if kc r1.2 (a16) 7 = true then obd (Wa_heft_f n (a16) r1.2) (fun r23 => some (r23.1, r23.2)) else (if kc r1.2 (a16) 8 = true then obd (Ro_heft_f n (a16) r1.2) (fun r27 => some (r27.1, r27.2)) else (if kc r1.2 (a16) 9 = true then obd (Ro_heft_f n (a16) r1.2) (fun r31 => some (r31.1, r31.2)) else none))))))))))
set_option maxRecDepth 100000 in
set_option maxHeartbeats 8000000 in
theorem Ti_weight_x {F : xF} {G : xG} {B sz : Nat} {Y : Nat → Nat} {o : Nat} (C : xC F G B cTi_weight RTi 3 1 21 0 0) (K : yK B Y (xFs F)) (hr : (xFM F).sig.returnType = (some .int)) {n : Nat} {x1 : Int32} {h : xH} {R : Int32 × xH} (hR : Ti_weight_f n o x1 h = some R) : X F G B (xZ F G B (kP (some (.int R.1)) R.2 sz) 0 0) 3 h sz 0 0 0 [(0, .ref (o)), (1, .int (x1))] [] := by
  unfold Ti_weight_f at hR
  refine X_iload_n C dTi_weight_0 rfl ?_
  have hq := o_bind hR
  clear hR
  obtain ⟨r1, hr1, hR⟩ := hq
  refine X_callSk (As := [.int (x1)]) (rest := []) C (Ti_isShelf_c hr1) wTi_231 ⟨by decide, by decide⟩ ⟨Nat.le_refl _, Nat.le_refl _⟩ rfl rfl (Nat.le_of_ble_eq_true rfl) dTi_weight_1 ?_
  show X F G B _ 3 (r1.2) _ _ _ _ _ [.int (r1.1)]
  refine X_if_ne (tgt := 9) C dTi_weight_4 (by decide) (fun c2 => ?_) (fun c2 => ?_)
  · rw [if_neg c2] at hR
    refine X_aload_n C dTi_weight_9 rfl ?_
    have hq := o_bind hR
    clear hR
    obtain ⟨w3, hx7, hR⟩ := hq
    obtain ⟨fs4, he5, hv6⟩ := gq_e hx7
    refine X_get (k := 3) C oTi fwTi_34 he5 hv6 dTi_weight_10 ?_
    refine X_iload_n C dTi_weight_13 rfl ?_
    have hq := o_bind hR
    clear hR
    obtain ⟨a8, rfl, hR⟩ := hq
    have hq := o_bind hR
    clear hR
    obtain ⟨w9, hx10, hR⟩ := hq
    obtain ⟨n11, f12, he13, hi14, e15⟩ := aq_e hx10
    refine X_aald C rfl he13 hi14 dTi_weight_14 ?_
    rw [← e15]
    refine X_astore_nq (lv' := [(2, va_rf (w9)), (0, .ref (o)), (1, .int (x1))]) C dTi_weight_15 (by decide) rfl ?_
    refine X_aload_nq C dTi_weight_16 rfl ?_
    refine X_ifnonnullq (tgt := 25) C dTi_weight_17 (by decide) (fun a16 e17 => ?_) (fun e17 => ?_)
    · subst e17
      rw [oel_s] at hR
      refine X_aload_n C dTi_weight_25 rfl ?_
      by_cases k18 : kc r1.2 (a16) 6 = true
      · rw [if_pos k18] at hR
        obtain ⟨fs20, he21⟩ := kc_e k18
        have hq := o_bind hR
        clear hR
        obtain ⟨r19, hr19, hR⟩ := hq
        refine X_callUk (As := []) (rest := []) C K (Pl_heft_c hr19) uTi_268_Pl ⟨by decide, by decide⟩ ⟨Nat.zero_le _, Nat.zero_le _⟩ he21 oPl.2.1 rfl rfl (Nat.le_of_ble_eq_true rfl) dTi_weight_26 ?_
        show X F G B _ 3 (r19.2) _ _ _ _ _ [.int (r19.1)]
        rw [← Option.some.inj hR]
        exact X_iret C hr (Nat.le_refl _) (Nat.le_refl _) dTi_weight_29 ⟨rfl, rfl, rfl⟩
      · rw [if_neg k18] at hR
        by_cases k22 : kc r1.2 (a16) 7 = true
        · rw [if_pos k22] at hR
          obtain ⟨fs24, he25⟩ := kc_e k22
          have hq := o_bind hR
          clear hR
          obtain ⟨r23, hr23, hR⟩ := hq
          refine X_callUk (As := []) (rest := []) C K (Wa_heft_c hr23) uTi_268_Wa ⟨by decide, by decide⟩ ⟨Nat.zero_le _, Nat.zero_le _⟩ he25 oWa.2.1 rfl rfl (Nat.le_of_ble_eq_true rfl) dTi_weight_26 ?_
          show X F G B _ 3 (r23.2) _ _ _ _ _ [.int (r23.1)]
          rw [← Option.some.inj hR]
          exact X_iret C hr (Nat.le_refl _) (Nat.le_refl _) dTi_weight_29 ⟨rfl, rfl, rfl⟩
        · rw [if_neg k22] at hR
          by_cases k26 : kc r1.2 (a16) 8 = true
          · rw [if_pos k26] at hR
            obtain ⟨fs28, he29⟩ := kc_e k26
            have hq := o_bind hR
            clear hR
            obtain ⟨r27, hr27, hR⟩ := hq
            refine X_callUk (As := []) (rest := []) C K (Ro_heft_c hr27) uTi_268_Sr ⟨by decide, by decide⟩ ⟨Nat.zero_le _, Nat.zero_le _⟩ he29 oSr.2.1 rfl rfl (Nat.le_of_ble_eq_true rfl) dTi_weight_26 ?_
            show X F G B _ 3 (r27.2) _ _ _ _ _ [.int (r27.1)]
            rw [← Option.some.inj hR]
            exact X_iret C hr (Nat.le_refl _) (Nat.le_refl _) dTi_weight_29 ⟨rfl, rfl, rfl⟩
          · rw [if_neg k26] at hR
            by_cases k30 : kc r1.2 (a16) 9 = true
            · rw [if_pos k30] at hR
              obtain ⟨fs32, he33⟩ := kc_e k30
              have hq := o_bind hR
              clear hR
              obtain ⟨r31, hr31, hR⟩ := hq
              refine X_callUk (As := []) (rest := []) C K (Ro_heft_c hr31) uTi_268_Lr ⟨by decide, by decide⟩ ⟨Nat.zero_le _, Nat.zero_le _⟩ he33 oLr.2.1 rfl rfl (Nat.le_of_ble_eq_true rfl) dTi_weight_26 ?_
              show X F G B _ 3 (r31.2) _ _ _ _ _ [.int (r31.1)]
              rw [← Option.some.inj hR]
              exact X_iret C hr (Nat.le_refl _) (Nat.le_refl _) dTi_weight_29 ⟨rfl, rfl, rfl⟩
            · rw [if_neg k30] at hR
              cases hR
    · subst e17
      rw [oel_n] at hR
      refine X_bipush (v := (-11)) C dTi_weight_20 (by decide) ?_
      refine X_goto (tgt := 29) C dTi_weight_22 (by decide) ?_
      rw [← Option.some.inj hR]
      exact X_iret C hr (Nat.le_refl _) (Nat.le_refl _) dTi_weight_29 ⟨rfl, rfl, rfl⟩
  · rw [if_pos c2] at hR
    refine X_iconst (v := (-1)) C dTi_weight_7 rfl ?_
    rw [← Option.some.inj hR]
    exact X_iret C hr (Nat.le_refl _) (Nat.le_refl _) dTi_weight_8 ⟨rfl, rfl, rfl⟩
theorem Ti_weight_c {l : Launch} {G : xG} {B sz : Nat} {Y : Nat → Nat} {o : Nat} {n : Nat} {x1 : Int32} {h : xH} {R : Int32 × xH} (hR : Ti_weight_f n o x1 h = some R) : yCon l yTi_weight cTi_weight 3 (some .int) 1 21 0 0 G B Y [.ref (o), .int (x1)] h sz (kP (some (.int R.1)) R.2 sz) := yCon.of (by decide) (by exact Nat.le_of_ble_eq_true rfl) (fun F e C K hr => X_sub (lv' := [(0, .ref (o)), (1, .int (x1))]) [0, 1] rfl (Ti_weight_x C K hr hR))
def Ti_copied_f (n : Nat) (y0 : Option Nat) (x1 : Int32) (y2 : Option Nat) (x3 : Int32) (x4 : Int32) (h : xH) : Option (Int32 × xH) := obd y0 (fun a1 => (if kc h (a1) 8 = true then obd (Sr_isOfKind_f n (a1) (y2) h) (fun r3 => (if r3.1 = 0 then some (((-12) : Int32), r3.2) else (if x4 < 0 then some (((-13) : Int32), r3.2) else (if x1 < 0 then some (((-13) : Int32), r3.2) else (if x3 < 0 then some (((-13) : Int32), r3.2) else (if kc r3.2 (a1) 8 = true then obd (Sr_size_f n (a1) r3.2) (fun r11 => (if (r11.1) - (x4) < x1 then some (((-13) : Int32), r11.2) else obd y2 (fun a15 => (if kc r11.2 (a15) 8 = true then obd (Sr_size_f n (a15) r11.2) (fun r17 => (if x3 ≤ (r17.1) - (x4) then (if kc r17.2 (a1) 8 = true then obd (Sr_giveTo_f n (a1) (x1) (some (a15)) (x3) (x4) r17.2) (fun r22 => some (x4, r22.2)) else none) else some (((-13) : Int32), r17.2))) else (if kc r11.2 (a15) 9 = true then obd (Lr_size_f n (a15) r11.2) (fun r26 => (if x3 ≤ (r26.1) - (x4) then (if kc r26.2 (a1) 8 = true then obd (Sr_giveTo_f n (a1) (x1) (some (a15)) (x3) (x4) r26.2) (fun r31 => some (x4, r31.2)) else none) else some (((-13) : Int32), r26.2))) else none))))) else none)))))) else (if kc h (a1) 9 = true then obd (Lr_isOfKind_f n (a1) (y2) h) (fun r35 => (if r35.1 = 0 then some (((-12) : Int32), r35.2) else (if x4 < 0 then some (((-13) : Int32), r35.2) else (if x1 < 0 then some (((-13) : Int32), r35.2) else (if x3 < 0 then some (((-13) : Int32), r35.2) else (if kc r35.2 (a1) 9 = true then obd (Lr_size_f n (a1) r35.2) (fun r43 => (if (r43.1) - (x4) < x1 then some (((-13) : Int32), r43.2) else obd y2 (fun a47 => (if kc r43.2 (a47) 8 = true then obd (Sr_size_f n (a47) r43.2) (fun r49 => (if x3 ≤ (r49.1) - (x4) then (if kc r49.2 (a1) 9 = true then obd (Lr_giveTo_f n (a1) (x1) (some (a47)) (x3) (x4) r49.2) (fun r54 => some (x4, r54.2)) else none) else some (((-13) : Int32), r49.2))) else (if kc r43.2 (a47) 9 = true then obd (Lr_size_f n (a47) r43.2) (fun r58 => (if x3 ≤ (r58.1) - (x4) then (if kc r58.2 (a1) 9 = true then obd (Lr_giveTo_f n (a1) (x1) (some (a47)) (x3) (x4) r58.2) (fun r63 => some (x4, r63.2)) else none) else some (((-13) : Int32), r58.2))) else none))))) else none)))))) else none)))
set_option maxRecDepth 100000 in
set_option maxHeartbeats 8000000 in
theorem Ti_copied_x {F : xF} {G : xG} {B sz : Nat} {Y : Nat → Nat} (C : xC F G B cTi_copied RTi 5 2 65 0 0) (K : yK B Y (xFs F)) (hr : (xFM F).sig.returnType = (some .int)) {n : Nat} {y0 : Option Nat} {x1 : Int32} {y2 : Option Nat} {x3 : Int32} {x4 : Int32} {h : xH} {R : Int32 × xH} (hR : Ti_copied_f n y0 x1 y2 x3 x4 h = some R) : X F G B (xZ F G B (kP (some (.int R.1)) R.2 sz) 0 0) 5 h sz 0 0 0 [(0, va_rf (y0)), (1, .int (x1)), (2, va_rf (y2)), (3, .int (x3)), (4, .int (x4))] [] := by
  unfold Ti_copied_f at hR
  refine X_aload_nq C dTi_copied_0 rfl ?_
  refine X_aload_nq C dTi_copied_1 rfl ?_
  have hq := o_bind hR
  clear hR
  obtain ⟨a1, rfl, hR⟩ := hq
  by_cases k2 : kc h (a1) 8 = true
  · rw [if_pos k2] at hR
    obtain ⟨fs4, he5⟩ := kc_e k2
    have hq := o_bind hR
    clear hR
    obtain ⟨r3, hr3, hR⟩ := hq
    refine X_callUk (As := [va_rf (y2)]) (rest := []) C K (Sr_isOfKind_c hr3) uTi_301_Sr ⟨by decide, by decide⟩ ⟨Nat.zero_le _, Nat.zero_le _⟩ he5 oSr.2.1 rfl rfl (Nat.le_of_ble_eq_true rfl) dTi_copied_2 ?_
    show X F G B _ 5 (r3.2) _ _ _ _ _ [.int (r3.1)]
    refine X_if_ne (tgt := 11) C dTi_copied_5 (by decide) (fun c6 => ?_) (fun c6 => ?_)
    · rw [if_neg c6] at hR
      refine X_iload C dTi_copied_11 rfl ?_
      refine X_if_lt (tgt := 46) C dTi_copied_13 (by decide) (fun c7 => ?_) (fun c7 => ?_)
      · rw [if_pos c7] at hR
        refine X_bipush (v := (-13)) C dTi_copied_46 (by decide) ?_
        rw [← Option.some.inj hR]
        exact X_iret C hr (Nat.le_refl _) (Nat.le_refl _) dTi_copied_48 ⟨rfl, rfl, rfl⟩
      · rw [if_neg c7] at hR
        refine X_iload_n C dTi_copied_16 rfl ?_
        refine X_if_lt (tgt := 46) C dTi_copied_17 (by decide) (fun c8 => ?_) (fun c8 => ?_)
        · rw [if_pos c8] at hR
          refine X_bipush (v := (-13)) C dTi_copied_46 (by decide) ?_
          rw [← Option.some.inj hR]
          exact X_iret C hr (Nat.le_refl _) (Nat.le_refl _) dTi_copied_48 ⟨rfl, rfl, rfl⟩
        · rw [if_neg c8] at hR
          refine X_iload_n C dTi_copied_20 rfl ?_
          refine X_if_lt (tgt := 46) C dTi_copied_21 (by decide) (fun c9 => ?_) (fun c9 => ?_)
          · rw [if_pos c9] at hR
            refine X_bipush (v := (-13)) C dTi_copied_46 (by decide) ?_
            rw [← Option.some.inj hR]
            exact X_iret C hr (Nat.le_refl _) (Nat.le_refl _) dTi_copied_48 ⟨rfl, rfl, rfl⟩
          · rw [if_neg c9] at hR
            refine X_iload_n C dTi_copied_24 rfl ?_
            refine X_aload_n C dTi_copied_25 rfl ?_
            by_cases k10 : kc r3.2 (a1) 8 = true
            · rw [if_pos k10] at hR
              obtain ⟨fs12, he13⟩ := kc_e k10
              have hq := o_bind hR
              clear hR
              obtain ⟨r11, hr11, hR⟩ := hq
              refine X_callUk (As := []) (rest := [.int (x1)]) C K (Sr_size_c hr11) uTi_252_Sr ⟨by decide, by decide⟩ ⟨Nat.zero_le _, Nat.zero_le _⟩ he13 oSr.2.1 rfl rfl (Nat.le_of_ble_eq_true rfl) dTi_copied_26 ?_
              show X F G B _ 5 (r11.2) _ _ _ _ _ [.int (r11.1), .int (x1)]
              refine X_iload C dTi_copied_29 rfl ?_
              refine X_isub C dTi_copied_31 ?_
              refine X_icmp_gt (tgt := 46) C dTi_copied_32 (by decide) (fun c14 => ?_) (fun c14 => ?_)
              · rw [if_pos c14] at hR
                refine X_bipush (v := (-13)) C dTi_copied_46 (by decide) ?_
                rw [← Option.some.inj hR]
                exact X_iret C hr (Nat.le_refl _) (Nat.le_refl _) dTi_copied_48 ⟨rfl, rfl, rfl⟩
              · rw [if_neg c14] at hR
                refine X_iload_n C dTi_copied_35 rfl ?_
                refine X_aload_nq C dTi_copied_36 rfl ?_
                have hq := o_bind hR
                clear hR
                obtain ⟨a15, rfl, hR⟩ := hq
                by_cases k16 : kc r11.2 (a15) 8 = true
                · rw [if_pos k16] at hR
                  obtain ⟨fs18, he19⟩ := kc_e k16
                  have hq := o_bind hR
                  clear hR
                  obtain ⟨r17, hr17, hR⟩ := hq
                  refine X_callUk (As := []) (rest := [.int (x3)]) C K (Sr_size_c hr17) uTi_252_Sr ⟨by decide, by decide⟩ ⟨Nat.zero_le _, Nat.zero_le _⟩ he19 oSr.2.1 rfl rfl (Nat.le_of_ble_eq_true rfl) dTi_copied_37 ?_
                  show X F G B _ 5 (r17.2) _ _ _ _ _ [.int (r17.1), .int (x3)]
                  refine X_iload C dTi_copied_40 rfl ?_
                  refine X_isub C dTi_copied_42 ?_
                  refine X_icmp_le (tgt := 49) C dTi_copied_43 (by decide) (fun c20 => ?_) (fun c20 => ?_)
                  · rw [if_pos c20] at hR
                    refine X_aload_n C dTi_copied_49 rfl ?_
                    refine X_iload_n C dTi_copied_50 rfl ?_
                    refine X_aload_n C dTi_copied_51 rfl ?_
                    refine X_iload_n C dTi_copied_52 rfl ?_
                    refine X_iload C dTi_copied_53 rfl ?_
                    by_cases k21 : kc r17.2 (a1) 8 = true
                    · rw [if_pos k21] at hR
                      obtain ⟨fs23, he24⟩ := kc_e k21
                      have hq := o_bind hR
                      clear hR
                      obtain ⟨r22, hr22, hR⟩ := hq
                      refine X_callUk (As := [.int (x1), .ref (a15), .int (x3), .int (x4)]) (rest := []) C K (Sr_giveTo_c hr22) uTi_305_Sr ⟨by decide, by decide⟩ ⟨Nat.zero_le _, Nat.zero_le _⟩ he24 oSr.2.1 rfl rfl (Nat.le_of_ble_eq_true rfl) dTi_copied_55 ?_
                      show X F G B _ 5 (r22.2) _ _ _ _ _ []
                      refine X_iload C dTi_copied_58 rfl ?_
                      rw [← Option.some.inj hR]
                      exact X_iret C hr (Nat.le_refl _) (Nat.le_refl _) dTi_copied_60 ⟨rfl, rfl, rfl⟩
                    · rw [if_neg k21] at hR
                      cases hR
                  · rw [if_neg c20] at hR
                    refine X_bipush (v := (-13)) C dTi_copied_46 (by decide) ?_
                    rw [← Option.some.inj hR]
                    exact X_iret C hr (Nat.le_refl _) (Nat.le_refl _) dTi_copied_48 ⟨rfl, rfl, rfl⟩
                · rw [if_neg k16] at hR
                  by_cases k25 : kc r11.2 (a15) 9 = true
                  · rw [if_pos k25] at hR
                    obtain ⟨fs27, he28⟩ := kc_e k25
                    have hq := o_bind hR
                    clear hR
                    obtain ⟨r26, hr26, hR⟩ := hq
                    refine X_callUk (As := []) (rest := [.int (x3)]) C K (Lr_size_c hr26) uTi_252_Lr ⟨by decide, by decide⟩ ⟨Nat.zero_le _, Nat.zero_le _⟩ he28 oLr.2.1 rfl rfl (Nat.le_of_ble_eq_true rfl) dTi_copied_37 ?_
                    show X F G B _ 5 (r26.2) _ _ _ _ _ [.int (r26.1), .int (x3)]
                    refine X_iload C dTi_copied_40 rfl ?_
                    refine X_isub C dTi_copied_42 ?_
                    refine X_icmp_le (tgt := 49) C dTi_copied_43 (by decide) (fun c29 => ?_) (fun c29 => ?_)
                    · rw [if_pos c29] at hR
                      refine X_aload_n C dTi_copied_49 rfl ?_
                      refine X_iload_n C dTi_copied_50 rfl ?_
                      refine X_aload_n C dTi_copied_51 rfl ?_
                      refine X_iload_n C dTi_copied_52 rfl ?_
                      refine X_iload C dTi_copied_53 rfl ?_
                      by_cases k30 : kc r26.2 (a1) 8 = true
                      · rw [if_pos k30] at hR
                        obtain ⟨fs32, he33⟩ := kc_e k30
                        have hq := o_bind hR
                        clear hR
                        obtain ⟨r31, hr31, hR⟩ := hq
                        refine X_callUk (As := [.int (x1), .ref (a15), .int (x3), .int (x4)]) (rest := []) C K (Sr_giveTo_c hr31) uTi_305_Sr ⟨by decide, by decide⟩ ⟨Nat.zero_le _, Nat.zero_le _⟩ he33 oSr.2.1 rfl rfl (Nat.le_of_ble_eq_true rfl) dTi_copied_55 ?_
                        show X F G B _ 5 (r31.2) _ _ _ _ _ []
                        refine X_iload C dTi_copied_58 rfl ?_
                        rw [← Option.some.inj hR]
                        exact X_iret C hr (Nat.le_refl _) (Nat.le_refl _) dTi_copied_60 ⟨rfl, rfl, rfl⟩
                      · rw [if_neg k30] at hR
                        cases hR
                    · rw [if_neg c29] at hR
                      refine X_bipush (v := (-13)) C dTi_copied_46 (by decide) ?_
                      rw [← Option.some.inj hR]
                      exact X_iret C hr (Nat.le_refl _) (Nat.le_refl _) dTi_copied_48 ⟨rfl, rfl, rfl⟩
                  · rw [if_neg k25] at hR
                    cases hR
            · rw [if_neg k10] at hR
              cases hR
    · rw [if_pos c6] at hR
      refine X_bipush (v := (-12)) C dTi_copied_8 (by decide) ?_
      rw [← Option.some.inj hR]
      exact X_iret C hr (Nat.le_refl _) (Nat.le_refl _) dTi_copied_10 ⟨rfl, rfl, rfl⟩
  · rw [if_neg k2] at hR
    by_cases k34 : kc h (a1) 9 = true
    · rw [if_pos k34] at hR
      obtain ⟨fs36, he37⟩ := kc_e k34
      have hq := o_bind hR
      clear hR
      obtain ⟨r35, hr35, hR⟩ := hq
      refine X_callUk (As := [va_rf (y2)]) (rest := []) C K (Lr_isOfKind_c hr35) uTi_301_Lr ⟨by decide, by decide⟩ ⟨Nat.zero_le _, Nat.zero_le _⟩ he37 oLr.2.1 rfl rfl (Nat.le_of_ble_eq_true rfl) dTi_copied_2 ?_
      show X F G B _ 5 (r35.2) _ _ _ _ _ [.int (r35.1)]
      refine X_if_ne (tgt := 11) C dTi_copied_5 (by decide) (fun c38 => ?_) (fun c38 => ?_)
      · rw [if_neg c38] at hR
        refine X_iload C dTi_copied_11 rfl ?_
        refine X_if_lt (tgt := 46) C dTi_copied_13 (by decide) (fun c39 => ?_) (fun c39 => ?_)
        · rw [if_pos c39] at hR
          refine X_bipush (v := (-13)) C dTi_copied_46 (by decide) ?_
          rw [← Option.some.inj hR]
          exact X_iret C hr (Nat.le_refl _) (Nat.le_refl _) dTi_copied_48 ⟨rfl, rfl, rfl⟩
        · rw [if_neg c39] at hR
          refine X_iload_n C dTi_copied_16 rfl ?_
          refine X_if_lt (tgt := 46) C dTi_copied_17 (by decide) (fun c40 => ?_) (fun c40 => ?_)
          · rw [if_pos c40] at hR
            refine X_bipush (v := (-13)) C dTi_copied_46 (by decide) ?_
            rw [← Option.some.inj hR]
            exact X_iret C hr (Nat.le_refl _) (Nat.le_refl _) dTi_copied_48 ⟨rfl, rfl, rfl⟩
          · rw [if_neg c40] at hR
            refine X_iload_n C dTi_copied_20 rfl ?_
            refine X_if_lt (tgt := 46) C dTi_copied_21 (by decide) (fun c41 => ?_) (fun c41 => ?_)
            · rw [if_pos c41] at hR
              refine X_bipush (v := (-13)) C dTi_copied_46 (by decide) ?_
              rw [← Option.some.inj hR]
              exact X_iret C hr (Nat.le_refl _) (Nat.le_refl _) dTi_copied_48 ⟨rfl, rfl, rfl⟩
            · rw [if_neg c41] at hR
              refine X_iload_n C dTi_copied_24 rfl ?_
              refine X_aload_n C dTi_copied_25 rfl ?_
              by_cases k42 : kc r35.2 (a1) 9 = true
              · rw [if_pos k42] at hR
                obtain ⟨fs44, he45⟩ := kc_e k42
                have hq := o_bind hR
                clear hR
                obtain ⟨r43, hr43, hR⟩ := hq
                refine X_callUk (As := []) (rest := [.int (x1)]) C K (Lr_size_c hr43) uTi_252_Lr ⟨by decide, by decide⟩ ⟨Nat.zero_le _, Nat.zero_le _⟩ he45 oLr.2.1 rfl rfl (Nat.le_of_ble_eq_true rfl) dTi_copied_26 ?_
                show X F G B _ 5 (r43.2) _ _ _ _ _ [.int (r43.1), .int (x1)]
                refine X_iload C dTi_copied_29 rfl ?_
                refine X_isub C dTi_copied_31 ?_
                refine X_icmp_gt (tgt := 46) C dTi_copied_32 (by decide) (fun c46 => ?_) (fun c46 => ?_)
                · rw [if_pos c46] at hR
                  refine X_bipush (v := (-13)) C dTi_copied_46 (by decide) ?_
                  rw [← Option.some.inj hR]
                  exact X_iret C hr (Nat.le_refl _) (Nat.le_refl _) dTi_copied_48 ⟨rfl, rfl, rfl⟩
                · rw [if_neg c46] at hR
                  refine X_iload_n C dTi_copied_35 rfl ?_
                  refine X_aload_nq C dTi_copied_36 rfl ?_
                  have hq := o_bind hR
                  clear hR
                  obtain ⟨a47, rfl, hR⟩ := hq
                  by_cases k48 : kc r43.2 (a47) 8 = true
                  · rw [if_pos k48] at hR
                    obtain ⟨fs50, he51⟩ := kc_e k48
                    have hq := o_bind hR
                    clear hR
                    obtain ⟨r49, hr49, hR⟩ := hq
                    refine X_callUk (As := []) (rest := [.int (x3)]) C K (Sr_size_c hr49) uTi_252_Sr ⟨by decide, by decide⟩ ⟨Nat.zero_le _, Nat.zero_le _⟩ he51 oSr.2.1 rfl rfl (Nat.le_of_ble_eq_true rfl) dTi_copied_37 ?_
                    show X F G B _ 5 (r49.2) _ _ _ _ _ [.int (r49.1), .int (x3)]
                    refine X_iload C dTi_copied_40 rfl ?_
                    refine X_isub C dTi_copied_42 ?_
                    refine X_icmp_le (tgt := 49) C dTi_copied_43 (by decide) (fun c52 => ?_) (fun c52 => ?_)
                    · rw [if_pos c52] at hR
                      refine X_aload_n C dTi_copied_49 rfl ?_
                      refine X_iload_n C dTi_copied_50 rfl ?_
                      refine X_aload_n C dTi_copied_51 rfl ?_
                      refine X_iload_n C dTi_copied_52 rfl ?_
                      refine X_iload C dTi_copied_53 rfl ?_
                      by_cases k53 : kc r49.2 (a1) 9 = true
                      · rw [if_pos k53] at hR
                        obtain ⟨fs55, he56⟩ := kc_e k53
                        have hq := o_bind hR
                        clear hR
                        obtain ⟨r54, hr54, hR⟩ := hq
                        refine X_callUk (As := [.int (x1), .ref (a47), .int (x3), .int (x4)]) (rest := []) C K (Lr_giveTo_c hr54) uTi_305_Lr ⟨by decide, by decide⟩ ⟨Nat.zero_le _, Nat.zero_le _⟩ he56 oLr.2.1 rfl rfl (Nat.le_of_ble_eq_true rfl) dTi_copied_55 ?_
                        show X F G B _ 5 (r54.2) _ _ _ _ _ []
                        refine X_iload C dTi_copied_58 rfl ?_
                        rw [← Option.some.inj hR]
                        exact X_iret C hr (Nat.le_refl _) (Nat.le_refl _) dTi_copied_60 ⟨rfl, rfl, rfl⟩
                      · rw [if_neg k53] at hR
                        cases hR
                    · rw [if_neg c52] at hR
                      refine X_bipush (v := (-13)) C dTi_copied_46 (by decide) ?_
                      rw [← Option.some.inj hR]
                      exact X_iret C hr (Nat.le_refl _) (Nat.le_refl _) dTi_copied_48 ⟨rfl, rfl, rfl⟩
                  · rw [if_neg k48] at hR
                    by_cases k57 : kc r43.2 (a47) 9 = true
                    · rw [if_pos k57] at hR
                      obtain ⟨fs59, he60⟩ := kc_e k57
                      have hq := o_bind hR
                      clear hR
                      obtain ⟨r58, hr58, hR⟩ := hq
                      refine X_callUk (As := []) (rest := [.int (x3)]) C K (Lr_size_c hr58) uTi_252_Lr ⟨by decide, by decide⟩ ⟨Nat.zero_le _, Nat.zero_le _⟩ he60 oLr.2.1 rfl rfl (Nat.le_of_ble_eq_true rfl) dTi_copied_37 ?_
                      show X F G B _ 5 (r58.2) _ _ _ _ _ [.int (r58.1), .int (x3)]
                      refine X_iload C dTi_copied_40 rfl ?_
                      refine X_isub C dTi_copied_42 ?_
                      refine X_icmp_le (tgt := 49) C dTi_copied_43 (by decide) (fun c61 => ?_) (fun c61 => ?_)
                      · rw [if_pos c61] at hR
                        refine X_aload_n C dTi_copied_49 rfl ?_
                        refine X_iload_n C dTi_copied_50 rfl ?_
                        refine X_aload_n C dTi_copied_51 rfl ?_
                        refine X_iload_n C dTi_copied_52 rfl ?_
                        refine X_iload C dTi_copied_53 rfl ?_
                        by_cases k62 : kc r58.2 (a1) 9 = true
                        · rw [if_pos k62] at hR
                          obtain ⟨fs64, he65⟩ := kc_e k62
                          have hq := o_bind hR
                          clear hR
                          obtain ⟨r63, hr63, hR⟩ := hq
                          refine X_callUk (As := [.int (x1), .ref (a47), .int (x3), .int (x4)]) (rest := []) C K (Lr_giveTo_c hr63) uTi_305_Lr ⟨by decide, by decide⟩ ⟨Nat.zero_le _, Nat.zero_le _⟩ he65 oLr.2.1 rfl rfl (Nat.le_of_ble_eq_true rfl) dTi_copied_55 ?_
                          show X F G B _ 5 (r63.2) _ _ _ _ _ []
                          refine X_iload C dTi_copied_58 rfl ?_
                          rw [← Option.some.inj hR]
                          exact X_iret C hr (Nat.le_refl _) (Nat.le_refl _) dTi_copied_60 ⟨rfl, rfl, rfl⟩
                        · rw [if_neg k62] at hR
                          cases hR
                      · rw [if_neg c61] at hR
                        refine X_bipush (v := (-13)) C dTi_copied_46 (by decide) ?_
                        rw [← Option.some.inj hR]
                        exact X_iret C hr (Nat.le_refl _) (Nat.le_refl _) dTi_copied_48 ⟨rfl, rfl, rfl⟩
                    · rw [if_neg k57] at hR
                      cases hR
              · rw [if_neg k42] at hR
                cases hR
      · rw [if_pos c38] at hR
        refine X_bipush (v := (-12)) C dTi_copied_8 (by decide) ?_
        rw [← Option.some.inj hR]
        exact X_iret C hr (Nat.le_refl _) (Nat.le_refl _) dTi_copied_10 ⟨rfl, rfl, rfl⟩
    · rw [if_neg k34] at hR
      cases hR
theorem Ti_copied_c {l : Launch} {G : xG} {B sz : Nat} {Y : Nat → Nat} {n : Nat} {y0 : Option Nat} {x1 : Int32} {y2 : Option Nat} {x3 : Int32} {x4 : Int32} {h : xH} {R : Int32 × xH} (hR : Ti_copied_f n y0 x1 y2 x3 x4 h = some R) : yCon l yTi_copied cTi_copied 5 (some .int) 2 65 0 0 G B Y [va_rf (y0), .int (x1), va_rf (y2), .int (x3), .int (x4)] h sz (kP (some (.int R.1)) R.2 sz) := yCon.of (by decide) (by simp [lg_sl, rf_cat, cat_i, cat_r, cat_l]) (fun F e C K hr => X_sub (lv' := [(0, va_rf (y0)), (1, .int (x1)), (2, va_rf (y2)), (3, .int (x3)), (4, .int (x4))]) [0, 1, 2, 3, 4] (by simp [lv_args, lv_pick, rf_cat, cat_i, cat_r, cat_l]) (Ti_copied_x C K hr hR))
def Ti_copy_f (n : Nat) (o : Nat) (x1 : Int32) (x2 : Int32) (x3 : Int32) (x4 : Int32) (x5 : Int32) (h : xH) : Option (Int32 × xH) := obd (Ti_isShelf_f n (x1) h) (fun r1 => (if r1.1 = 0 then some (((-1) : Int32), r1.2) else obd (Ti_isShelf_f n (x3) r1.2) (fun r3 => (if r3.1 = 0 then some (((-1) : Int32), r3.2) else obd (gq r3.2 (o) 4 3) (fun w5 => obd w5 (fun a10 => obd (aq r3.2 (a10) 8 (x1)) (fun w11 => oel (w11) (some (((-11) : Int32), r3.2)) (fun a18 => obd (gq r3.2 (o) 4 3) (fun w20 => obd w20 (fun a25 => obd (aq r3.2 (a25) 8 (x3)) (fun w26 => oel (w26) (some (((-11) : Int32), r3.2)) (fun a33 => obd (gq r3.2 (o) 4 3) (fun w35 => obd w35 (fun a40 => obd (aq r3.2 (a40) 8 (x1)) (fun w41 => oel (w41) (some (((-12) : Int32), r3.2)) (fun a48 => (if kc r3.2 (a48) 6 = true then some (((-12) : Int32), r3.2) else (if kc r3.2 (a48) 7 = true then some (((-12) : Int32), r3.2) else (if kc r3.2 (a48) 8 = true then (if kc r3.2 (a48) 8 = true then obd (gq r3.2 (o) 4 3) (fun w62 => obd w62 (fun a67 => obd (aq r3.2 (a67) 8 (x3)) (fun w68 => oel (w68) (some (((-12) : Int32), r3.2)) (fun a75 => (if kc r3.2 (a75) 6 = true then some (((-12) : Int32), r3.2) else (if kc r3.2 (a75) 7 = true then some (((-12) : Int32), r3.2) else (if kc r3.2 (a75) 8 = true then (if kc r3.2 (a75) 8 = true then obd (Ti_copied_f n (some (a48)) (x2) (some (a75)) (x4) (x5) r3.2) (fun r89 => some (r89.1, r89.2)) else none) else (if kc r3.2 (a75) 9 = true then (if kc r3.2 (a75) 9 = true then obd (Ti_copied_f n (some (a48)) (x2) (some (a75)) (x4) (x5) r3.2) (fun r96 => some (r96.1, r96.2)) else none) else none)))))))) else none) else (if kc r3.2 (a48) 9 = true then (if kc r3.2 (a48) 9 = true then obd (gq r3.2 (o) 4 3) (fun w103 => obd w103 (fun a108 => obd (aq r3.2 (a108) 8 (x3)) (fun w109 => oel (w109) (some (((-12) : Int32), r3.2)) (fun a116 => (if kc r3.2 (a116) 6 = true then some (((-12) : Int32), r3.2) else (if kc r3.2 (a116) 7 = true then some (((-12) : Int32), r3.2) else (if kc r3.2 (a116) 8 = true then (if kc r3.2 (a116) 8 = true then obd (Ti_copied_f n (some (a48)) (x2) (some (a116)) (x4) (x5) r3.2) (fun r130 => some (r130.1, r130.2)) else none) else (if kc r3.2 (a116) 9 = true then (if kc r3.2 (a116) 9 = true then obd (Ti_copied_f n (some (a48)) (x2) (some (a116)) (x4) (x5) r3.2) (fun r137 => some (r137.1, r137.2)) else none) else none)))))))) else none) else none))))))))))))))))))))
set_option maxRecDepth 100000 in
set_option maxHeartbeats 8000000 in
theorem Ti_copy_x {F : xF} {G : xG} {B sz : Nat} {Y : Nat → Nat} {o : Nat} (C : xC F G B cTi_copy RTi 9 3 89 0 0) (K : yK B Y (xFs F)) (hr : (xFM F).sig.returnType = (some .int)) {n : Nat} {x1 : Int32} {x2 : Int32} {x3 : Int32} {x4 : Int32} {x5 : Int32} {h : xH} {R : Int32 × xH} (hR : Ti_copy_f n o x1 x2 x3 x4 x5 h = some R) : X F G B (xZ F G B (kP (some (.int R.1)) R.2 sz) 0 0) 9 h sz 0 0 0 [(0, .ref (o)), (1, .int (x1)), (2, .int (x2)), (3, .int (x3)), (4, .int (x4)), (5, .int (x5))] [] := by
  unfold Ti_copy_f at hR
  refine X_iload_n C dTi_copy_0 rfl ?_
  have hq := o_bind hR
  clear hR
  obtain ⟨r1, hr1, hR⟩ := hq
  refine X_callSk (As := [.int (x1)]) (rest := []) C (Ti_isShelf_c hr1) wTi_231 ⟨by decide, by decide⟩ ⟨Nat.le_refl _, Nat.le_refl _⟩ rfl rfl (Nat.le_of_ble_eq_true rfl) dTi_copy_1 ?_
  show X F G B _ 9 (r1.2) _ _ _ _ _ [.int (r1.1)]
  refine X_if_eq (tgt := 14) C dTi_copy_4 (by decide) (fun c2 => ?_) (fun c2 => ?_)
  · rw [if_pos c2] at hR
    refine X_iconst (v := (-1)) C dTi_copy_14 rfl ?_
    rw [← Option.some.inj hR]
    exact X_iret C hr (Nat.le_refl _) (Nat.le_refl _) dTi_copy_15 ⟨rfl, rfl, rfl⟩
  · rw [if_neg c2] at hR
    refine X_iload_n C dTi_copy_7 rfl ?_
    have hq := o_bind hR
    clear hR
    obtain ⟨r3, hr3, hR⟩ := hq
    refine X_callSk (As := [.int (x3)]) (rest := []) C (Ti_isShelf_c hr3) wTi_231 ⟨by decide, by decide⟩ ⟨Nat.le_refl _, Nat.le_refl _⟩ rfl rfl (Nat.le_of_ble_eq_true rfl) dTi_copy_8 ?_
    show X F G B _ 9 (r3.2) _ _ _ _ _ [.int (r3.1)]
    refine X_if_ne (tgt := 16) C dTi_copy_11 (by decide) (fun c4 => ?_) (fun c4 => ?_)
    · rw [if_neg c4] at hR
      refine X_aload_n C dTi_copy_16 rfl ?_
      have hq := o_bind hR
      clear hR
      obtain ⟨w5, hx9, hR⟩ := hq
      obtain ⟨fs6, he7, hv8⟩ := gq_e hx9
      refine X_get (k := 3) C oTi fwTi_34 he7 hv8 dTi_copy_17 ?_
      refine X_iload_n C dTi_copy_20 rfl ?_
      have hq := o_bind hR
      clear hR
      obtain ⟨a10, rfl, hR⟩ := hq
      have hq := o_bind hR
      clear hR
      obtain ⟨w11, hx12, hR⟩ := hq
      obtain ⟨n13, f14, he15, hi16, e17⟩ := aq_e hx12
      refine X_aald C rfl he15 hi16 dTi_copy_21 ?_
      rw [← e17]
      refine X_ifnullq (tgt := 34) C dTi_copy_22 (by decide) (fun e19 => ?_) (fun a18 e19 => ?_)
      · subst e19
        rw [oel_n] at hR
        refine X_bipush (v := (-11)) C dTi_copy_34 (by decide) ?_
        rw [← Option.some.inj hR]
        exact X_iret C hr (Nat.le_refl _) (Nat.le_refl _) dTi_copy_36 ⟨rfl, rfl, rfl⟩
      · subst e19
        rw [oel_s] at hR
        refine X_aload_n C dTi_copy_25 rfl ?_
        have hq := o_bind hR
        clear hR
        obtain ⟨w20, hx24, hR⟩ := hq
        obtain ⟨fs21, he22, hv23⟩ := gq_e hx24
        refine X_get (k := 3) C oTi fwTi_34 he22 hv23 dTi_copy_26 ?_
        refine X_iload_n C dTi_copy_29 rfl ?_
        have hq := o_bind hR
        clear hR
        obtain ⟨a25, rfl, hR⟩ := hq
        have hq := o_bind hR
        clear hR
        obtain ⟨w26, hx27, hR⟩ := hq
        obtain ⟨n28, f29, he30, hi31, e32⟩ := aq_e hx27
        refine X_aald C rfl he30 hi31 dTi_copy_30 ?_
        rw [← e32]
        refine X_ifnonnullq (tgt := 37) C dTi_copy_31 (by decide) (fun a33 e34 => ?_) (fun e34 => ?_)
        · subst e34
          rw [oel_s] at hR
          refine X_aload_n C dTi_copy_37 rfl ?_
          have hq := o_bind hR
          clear hR
          obtain ⟨w35, hx39, hR⟩ := hq
          obtain ⟨fs36, he37, hv38⟩ := gq_e hx39
          refine X_get (k := 3) C oTi fwTi_34 he37 hv38 dTi_copy_38 ?_
          refine X_iload_n C dTi_copy_41 rfl ?_
          have hq := o_bind hR
          clear hR
          obtain ⟨a40, rfl, hR⟩ := hq
          have hq := o_bind hR
          clear hR
          obtain ⟨w41, hx42, hR⟩ := hq
          obtain ⟨n43, f44, he45, hi46, e47⟩ := aq_e hx42
          refine X_aald C rfl he45 hi46 dTi_copy_42 ?_
          rw [← e47]
          refine X_astoreq (lv' := [(7, va_rf (w41)), (0, .ref (o)), (1, .int (x1)), (2, .int (x2)), (3, .int (x3)), (4, .int (x4)), (5, .int (x5))]) C dTi_copy_43 (by decide) rfl ?_
          refine X_aloadq C dTi_copy_45 rfl ?_
          cases w41 with
          | none =>
            rw [oel_n] at hR
            refine X_inst0 C dTi_copy_47 ?_
            refine X_if_eq (tgt := 96) C dTi_copy_50 (by decide) (fun _ => ?_) (fun c => absurd c (by decide))
            refine X_bipush (v := (-12)) C dTi_copy_96 (by decide) ?_
            rw [← Option.some.inj hR]
            exact X_iret C hr (Nat.le_refl _) (Nat.le_refl _) dTi_copy_98 ⟨rfl, rfl, rfl⟩
          | some a48 =>
            rw [oel_s] at hR
            by_cases k50 : kc r3.2 (a48) 6 = true
            · rw [if_pos k50] at hR
              obtain ⟨fs51, he52⟩ := kc_e k50
              refine X_instNo C oPl.2.1 (by decide) clTi_250 he52 dTi_copy_47 ?_
              refine X_if_eq (tgt := 96) C dTi_copy_50 (by decide) (fun _ => ?_) (fun c => absurd c (by decide))
              refine X_bipush (v := (-12)) C dTi_copy_96 (by decide) ?_
              rw [← Option.some.inj hR]
              exact X_iret C hr (Nat.le_refl _) (Nat.le_refl _) dTi_copy_98 ⟨rfl, rfl, rfl⟩
            · rw [if_neg k50] at hR
              by_cases k53 : kc r3.2 (a48) 7 = true
              · rw [if_pos k53] at hR
                obtain ⟨fs54, he55⟩ := kc_e k53
                refine X_instNo C oWa.2.1 (by decide) clTi_250 he55 dTi_copy_47 ?_
                refine X_if_eq (tgt := 96) C dTi_copy_50 (by decide) (fun _ => ?_) (fun c => absurd c (by decide))
                refine X_bipush (v := (-12)) C dTi_copy_96 (by decide) ?_
                rw [← Option.some.inj hR]
                exact X_iret C hr (Nat.le_refl _) (Nat.le_refl _) dTi_copy_98 ⟨rfl, rfl, rfl⟩
              · rw [if_neg k53] at hR
                by_cases k56 : kc r3.2 (a48) 8 = true
                · rw [if_pos k56] at hR
                  obtain ⟨fs57, he58⟩ := kc_e k56
                  refine X_instY C oSr.2.1 (by decide) clTi_250 he58 dTi_copy_47 ?_
                  refine X_if_eq (tgt := 96) C dTi_copy_50 (by decide) (fun c => absurd c (by decide)) (fun _ => ?_)
                  refine X_aload C dTi_copy_53 rfl ?_
                  by_cases k59 : kc r3.2 (a48) 8 = true
                  · rw [if_pos k59] at hR
                    obtain ⟨fs60, he61⟩ := kc_e k59
                    refine X_castY C oSr.2.1 (by decide) clTi_250 he61 dTi_copy_55 ?_
                    refine X_astore (lv' := [(6, .ref (a48)), (7, .ref (a48)), (0, .ref (o)), (1, .int (x1)), (2, .int (x2)), (3, .int (x3)), (4, .int (x4)), (5, .int (x5))]) C dTi_copy_58 (by decide) rfl ?_
                    refine X_aload_n C dTi_copy_60 rfl ?_
                    have hq := o_bind hR
                    clear hR
                    obtain ⟨w62, hx66, hR⟩ := hq
                    obtain ⟨fs63, he64, hv65⟩ := gq_e hx66
                    refine X_get (k := 3) C oTi fwTi_34 he64 hv65 dTi_copy_61 ?_
                    refine X_iload_n C dTi_copy_64 rfl ?_
                    have hq := o_bind hR
                    clear hR
                    obtain ⟨a67, rfl, hR⟩ := hq
                    have hq := o_bind hR
                    clear hR
                    obtain ⟨w68, hx69, hR⟩ := hq
                    obtain ⟨n70, f71, he72, hi73, e74⟩ := aq_e hx69
                    refine X_aald C rfl he72 hi73 dTi_copy_65 ?_
                    rw [← e74]
                    refine X_astoreq (lv' := [(8, va_rf (w68)), (6, .ref (a48)), (7, .ref (a48)), (0, .ref (o)), (1, .int (x1)), (2, .int (x2)), (3, .int (x3)), (4, .int (x4)), (5, .int (x5))]) C dTi_copy_66 (by decide) rfl ?_
                    refine X_aloadq C dTi_copy_68 rfl ?_
                    cases w68 with
                    | none =>
                      rw [oel_n] at hR
                      refine X_inst0 C dTi_copy_70 ?_
                      refine X_if_eq (tgt := 96) C dTi_copy_73 (by decide) (fun _ => ?_) (fun c => absurd c (by decide))
                      refine X_bipush (v := (-12)) C dTi_copy_96 (by decide) ?_
                      rw [← Option.some.inj hR]
                      exact X_iret C hr (Nat.le_refl _) (Nat.le_refl _) dTi_copy_98 ⟨rfl, rfl, rfl⟩
                    | some a75 =>
                      rw [oel_s] at hR
                      by_cases k77 : kc r3.2 (a75) 6 = true
                      · rw [if_pos k77] at hR
                        obtain ⟨fs78, he79⟩ := kc_e k77
                        refine X_instNo C oPl.2.1 (by decide) clTi_250 he79 dTi_copy_70 ?_
                        refine X_if_eq (tgt := 96) C dTi_copy_73 (by decide) (fun _ => ?_) (fun c => absurd c (by decide))
                        refine X_bipush (v := (-12)) C dTi_copy_96 (by decide) ?_
                        rw [← Option.some.inj hR]
                        exact X_iret C hr (Nat.le_refl _) (Nat.le_refl _) dTi_copy_98 ⟨rfl, rfl, rfl⟩
                      · rw [if_neg k77] at hR
                        by_cases k80 : kc r3.2 (a75) 7 = true
                        · rw [if_pos k80] at hR
                          obtain ⟨fs81, he82⟩ := kc_e k80
                          refine X_instNo C oWa.2.1 (by decide) clTi_250 he82 dTi_copy_70 ?_
                          refine X_if_eq (tgt := 96) C dTi_copy_73 (by decide) (fun _ => ?_) (fun c => absurd c (by decide))
                          refine X_bipush (v := (-12)) C dTi_copy_96 (by decide) ?_
                          rw [← Option.some.inj hR]
                          exact X_iret C hr (Nat.le_refl _) (Nat.le_refl _) dTi_copy_98 ⟨rfl, rfl, rfl⟩
                        · rw [if_neg k80] at hR
                          by_cases k83 : kc r3.2 (a75) 8 = true
                          · rw [if_pos k83] at hR
                            obtain ⟨fs84, he85⟩ := kc_e k83
                            refine X_instY C oSr.2.1 (by decide) clTi_250 he85 dTi_copy_70 ?_
                            refine X_if_eq (tgt := 96) C dTi_copy_73 (by decide) (fun c => absurd c (by decide)) (fun _ => ?_)
                            refine X_aload C dTi_copy_76 rfl ?_
                            by_cases k86 : kc r3.2 (a75) 8 = true
                            · rw [if_pos k86] at hR
                              obtain ⟨fs87, he88⟩ := kc_e k86
                              refine X_castY C oSr.2.1 (by decide) clTi_250 he88 dTi_copy_78 ?_
                              refine X_astore (lv' := [(7, .ref (a75)), (8, .ref (a75)), (6, .ref (a48)), (0, .ref (o)), (1, .int (x1)), (2, .int (x2)), (3, .int (x3)), (4, .int (x4)), (5, .int (x5))]) C dTi_copy_81 (by decide) rfl ?_
                              refine X_aload C dTi_copy_83 rfl ?_
                              refine X_iload_n C dTi_copy_85 rfl ?_
                              refine X_aload C dTi_copy_86 rfl ?_
                              refine X_iload C dTi_copy_88 rfl ?_
                              refine X_iload C dTi_copy_90 rfl ?_
                              have hq := o_bind hR
                              clear hR
                              obtain ⟨r89, hr89, hR⟩ := hq
                              refine X_callSyk (As := [.ref (a48), .int (x2), .ref (a75), .int (x4), .int (x5)]) (rest := []) C K (Ti_copied_c hr89) wTi_264 ⟨by decide, by decide⟩ ⟨Nat.zero_le _, Nat.zero_le _⟩ rfl rfl (Nat.le_of_ble_eq_true rfl) dTi_copy_92 ?_
                              show X F G B _ 9 (r89.2) _ _ _ _ _ [.int r89.1]
                              rw [← Option.some.inj hR]
                              exact X_iret C hr (Nat.le_refl _) (Nat.le_refl _) dTi_copy_95 ⟨rfl, rfl, rfl⟩
                            · rw [if_neg k86] at hR
                              cases hR
                          · rw [if_neg k83] at hR
                            by_cases k90 : kc r3.2 (a75) 9 = true
                            · rw [if_pos k90] at hR
                              obtain ⟨fs91, he92⟩ := kc_e k90
                              refine X_instY C oLr.2.1 (by decide) clTi_250 he92 dTi_copy_70 ?_
                              refine X_if_eq (tgt := 96) C dTi_copy_73 (by decide) (fun c => absurd c (by decide)) (fun _ => ?_)
                              refine X_aload C dTi_copy_76 rfl ?_
                              by_cases k93 : kc r3.2 (a75) 9 = true
                              · rw [if_pos k93] at hR
                                obtain ⟨fs94, he95⟩ := kc_e k93
                                refine X_castY C oLr.2.1 (by decide) clTi_250 he95 dTi_copy_78 ?_
                                refine X_astore (lv' := [(7, .ref (a75)), (8, .ref (a75)), (6, .ref (a48)), (0, .ref (o)), (1, .int (x1)), (2, .int (x2)), (3, .int (x3)), (4, .int (x4)), (5, .int (x5))]) C dTi_copy_81 (by decide) rfl ?_
                                refine X_aload C dTi_copy_83 rfl ?_
                                refine X_iload_n C dTi_copy_85 rfl ?_
                                refine X_aload C dTi_copy_86 rfl ?_
                                refine X_iload C dTi_copy_88 rfl ?_
                                refine X_iload C dTi_copy_90 rfl ?_
                                have hq := o_bind hR
                                clear hR
                                obtain ⟨r96, hr96, hR⟩ := hq
                                refine X_callSyk (As := [.ref (a48), .int (x2), .ref (a75), .int (x4), .int (x5)]) (rest := []) C K (Ti_copied_c hr96) wTi_264 ⟨by decide, by decide⟩ ⟨Nat.zero_le _, Nat.zero_le _⟩ rfl rfl (Nat.le_of_ble_eq_true rfl) dTi_copy_92 ?_
                                show X F G B _ 9 (r96.2) _ _ _ _ _ [.int r96.1]
                                rw [← Option.some.inj hR]
                                exact X_iret C hr (Nat.le_refl _) (Nat.le_refl _) dTi_copy_95 ⟨rfl, rfl, rfl⟩
                              · rw [if_neg k93] at hR
                                cases hR
                            · rw [if_neg k90] at hR
                              cases hR
                  · rw [if_neg k59] at hR
                    cases hR
                · rw [if_neg k56] at hR
                  by_cases k97 : kc r3.2 (a48) 9 = true
                  · rw [if_pos k97] at hR
                    obtain ⟨fs98, he99⟩ := kc_e k97
                    refine X_instY C oLr.2.1 (by decide) clTi_250 he99 dTi_copy_47 ?_
                    refine X_if_eq (tgt := 96) C dTi_copy_50 (by decide) (fun c => absurd c (by decide)) (fun _ => ?_)
                    refine X_aload C dTi_copy_53 rfl ?_
                    by_cases k100 : kc r3.2 (a48) 9 = true
                    · rw [if_pos k100] at hR
                      obtain ⟨fs101, he102⟩ := kc_e k100
                      refine X_castY C oLr.2.1 (by decide) clTi_250 he102 dTi_copy_55 ?_
                      refine X_astore (lv' := [(6, .ref (a48)), (7, .ref (a48)), (0, .ref (o)), (1, .int (x1)), (2, .int (x2)), (3, .int (x3)), (4, .int (x4)), (5, .int (x5))]) C dTi_copy_58 (by decide) rfl ?_
                      refine X_aload_n C dTi_copy_60 rfl ?_
                      have hq := o_bind hR
                      clear hR
                      obtain ⟨w103, hx107, hR⟩ := hq
                      obtain ⟨fs104, he105, hv106⟩ := gq_e hx107
                      refine X_get (k := 3) C oTi fwTi_34 he105 hv106 dTi_copy_61 ?_
                      refine X_iload_n C dTi_copy_64 rfl ?_
                      have hq := o_bind hR
                      clear hR
                      obtain ⟨a108, rfl, hR⟩ := hq
                      have hq := o_bind hR
                      clear hR
                      obtain ⟨w109, hx110, hR⟩ := hq
                      obtain ⟨n111, f112, he113, hi114, e115⟩ := aq_e hx110
                      refine X_aald C rfl he113 hi114 dTi_copy_65 ?_
                      rw [← e115]
                      refine X_astoreq (lv' := [(8, va_rf (w109)), (6, .ref (a48)), (7, .ref (a48)), (0, .ref (o)), (1, .int (x1)), (2, .int (x2)), (3, .int (x3)), (4, .int (x4)), (5, .int (x5))]) C dTi_copy_66 (by decide) rfl ?_
                      refine X_aloadq C dTi_copy_68 rfl ?_
                      cases w109 with
                      | none =>
                        rw [oel_n] at hR
                        refine X_inst0 C dTi_copy_70 ?_
                        refine X_if_eq (tgt := 96) C dTi_copy_73 (by decide) (fun _ => ?_) (fun c => absurd c (by decide))
                        refine X_bipush (v := (-12)) C dTi_copy_96 (by decide) ?_
                        rw [← Option.some.inj hR]
                        exact X_iret C hr (Nat.le_refl _) (Nat.le_refl _) dTi_copy_98 ⟨rfl, rfl, rfl⟩
                      | some a116 =>
                        rw [oel_s] at hR
                        by_cases k118 : kc r3.2 (a116) 6 = true
                        · rw [if_pos k118] at hR
                          obtain ⟨fs119, he120⟩ := kc_e k118
                          refine X_instNo C oPl.2.1 (by decide) clTi_250 he120 dTi_copy_70 ?_
                          refine X_if_eq (tgt := 96) C dTi_copy_73 (by decide) (fun _ => ?_) (fun c => absurd c (by decide))
                          refine X_bipush (v := (-12)) C dTi_copy_96 (by decide) ?_
                          rw [← Option.some.inj hR]
                          exact X_iret C hr (Nat.le_refl _) (Nat.le_refl _) dTi_copy_98 ⟨rfl, rfl, rfl⟩
                        · rw [if_neg k118] at hR
                          by_cases k121 : kc r3.2 (a116) 7 = true
                          · rw [if_pos k121] at hR
                            obtain ⟨fs122, he123⟩ := kc_e k121
                            refine X_instNo C oWa.2.1 (by decide) clTi_250 he123 dTi_copy_70 ?_
                            refine X_if_eq (tgt := 96) C dTi_copy_73 (by decide) (fun _ => ?_) (fun c => absurd c (by decide))
                            refine X_bipush (v := (-12)) C dTi_copy_96 (by decide) ?_
                            rw [← Option.some.inj hR]
                            exact X_iret C hr (Nat.le_refl _) (Nat.le_refl _) dTi_copy_98 ⟨rfl, rfl, rfl⟩
                          · rw [if_neg k121] at hR
                            by_cases k124 : kc r3.2 (a116) 8 = true
                            · rw [if_pos k124] at hR
                              obtain ⟨fs125, he126⟩ := kc_e k124
                              refine X_instY C oSr.2.1 (by decide) clTi_250 he126 dTi_copy_70 ?_
                              refine X_if_eq (tgt := 96) C dTi_copy_73 (by decide) (fun c => absurd c (by decide)) (fun _ => ?_)
                              refine X_aload C dTi_copy_76 rfl ?_
                              by_cases k127 : kc r3.2 (a116) 8 = true
                              · rw [if_pos k127] at hR
                                obtain ⟨fs128, he129⟩ := kc_e k127
                                refine X_castY C oSr.2.1 (by decide) clTi_250 he129 dTi_copy_78 ?_
                                refine X_astore (lv' := [(7, .ref (a116)), (8, .ref (a116)), (6, .ref (a48)), (0, .ref (o)), (1, .int (x1)), (2, .int (x2)), (3, .int (x3)), (4, .int (x4)), (5, .int (x5))]) C dTi_copy_81 (by decide) rfl ?_
                                refine X_aload C dTi_copy_83 rfl ?_
                                refine X_iload_n C dTi_copy_85 rfl ?_
                                refine X_aload C dTi_copy_86 rfl ?_
                                refine X_iload C dTi_copy_88 rfl ?_
                                refine X_iload C dTi_copy_90 rfl ?_
                                have hq := o_bind hR
                                clear hR
                                obtain ⟨r130, hr130, hR⟩ := hq
                                refine X_callSyk (As := [.ref (a48), .int (x2), .ref (a116), .int (x4), .int (x5)]) (rest := []) C K (Ti_copied_c hr130) wTi_264 ⟨by decide, by decide⟩ ⟨Nat.zero_le _, Nat.zero_le _⟩ rfl rfl (Nat.le_of_ble_eq_true rfl) dTi_copy_92 ?_
                                show X F G B _ 9 (r130.2) _ _ _ _ _ [.int r130.1]
                                rw [← Option.some.inj hR]
                                exact X_iret C hr (Nat.le_refl _) (Nat.le_refl _) dTi_copy_95 ⟨rfl, rfl, rfl⟩
                              · rw [if_neg k127] at hR
                                cases hR
                            · rw [if_neg k124] at hR
                              by_cases k131 : kc r3.2 (a116) 9 = true
                              · rw [if_pos k131] at hR
                                obtain ⟨fs132, he133⟩ := kc_e k131
                                refine X_instY C oLr.2.1 (by decide) clTi_250 he133 dTi_copy_70 ?_
                                refine X_if_eq (tgt := 96) C dTi_copy_73 (by decide) (fun c => absurd c (by decide)) (fun _ => ?_)
                                refine X_aload C dTi_copy_76 rfl ?_
                                by_cases k134 : kc r3.2 (a116) 9 = true
                                · rw [if_pos k134] at hR
                                  obtain ⟨fs135, he136⟩ := kc_e k134
                                  refine X_castY C oLr.2.1 (by decide) clTi_250 he136 dTi_copy_78 ?_
                                  refine X_astore (lv' := [(7, .ref (a116)), (8, .ref (a116)), (6, .ref (a48)), (0, .ref (o)), (1, .int (x1)), (2, .int (x2)), (3, .int (x3)), (4, .int (x4)), (5, .int (x5))]) C dTi_copy_81 (by decide) rfl ?_
                                  refine X_aload C dTi_copy_83 rfl ?_
                                  refine X_iload_n C dTi_copy_85 rfl ?_
                                  refine X_aload C dTi_copy_86 rfl ?_
                                  refine X_iload C dTi_copy_88 rfl ?_
                                  refine X_iload C dTi_copy_90 rfl ?_
                                  have hq := o_bind hR
                                  clear hR
                                  obtain ⟨r137, hr137, hR⟩ := hq
                                  refine X_callSyk (As := [.ref (a48), .int (x2), .ref (a116), .int (x4), .int (x5)]) (rest := []) C K (Ti_copied_c hr137) wTi_264 ⟨by decide, by decide⟩ ⟨Nat.zero_le _, Nat.zero_le _⟩ rfl rfl (Nat.le_of_ble_eq_true rfl) dTi_copy_92 ?_
                                  show X F G B _ 9 (r137.2) _ _ _ _ _ [.int r137.1]
                                  rw [← Option.some.inj hR]
                                  exact X_iret C hr (Nat.le_refl _) (Nat.le_refl _) dTi_copy_95 ⟨rfl, rfl, rfl⟩
                                · rw [if_neg k134] at hR
                                  cases hR
                              · rw [if_neg k131] at hR
                                cases hR
                    · rw [if_neg k100] at hR
                      cases hR
                  · rw [if_neg k97] at hR
                    cases hR
        · subst e34
          rw [oel_n] at hR
          refine X_bipush (v := (-11)) C dTi_copy_34 (by decide) ?_
          rw [← Option.some.inj hR]
          exact X_iret C hr (Nat.le_refl _) (Nat.le_refl _) dTi_copy_36 ⟨rfl, rfl, rfl⟩
    · rw [if_pos c4] at hR
      refine X_iconst (v := (-1)) C dTi_copy_14 rfl ?_
      rw [← Option.some.inj hR]
      exact X_iret C hr (Nat.le_refl _) (Nat.le_refl _) dTi_copy_15 ⟨rfl, rfl, rfl⟩
theorem Ti_copy_c {l : Launch} {G : xG} {B sz : Nat} {Y : Nat → Nat} {o : Nat} {n : Nat} {x1 : Int32} {x2 : Int32} {x3 : Int32} {x4 : Int32} {x5 : Int32} {h : xH} {R : Int32 × xH} (hR : Ti_copy_f n o x1 x2 x3 x4 x5 h = some R) : yCon l yTi_copy cTi_copy 9 (some .int) 3 89 0 0 G B Y [.ref (o), .int (x1), .int (x2), .int (x3), .int (x4), .int (x5)] h sz (kP (some (.int R.1)) R.2 sz) := yCon.of (by decide) (by exact Nat.le_of_ble_eq_true rfl) (fun F e C K hr => X_sub (lv' := [(0, .ref (o)), (1, .int (x1)), (2, .int (x2)), (3, .int (x3)), (4, .int (x4)), (5, .int (x5))]) [0, 1, 2, 3, 4, 5] rfl (Ti_copy_x C K hr hR))
def Ti_bound_f (n : Nat) (o : Nat) (x1 : Int32) (x2 : Int32) (x3 : Int32) (h : xH) : Option (Int32 × Nat × xH) := obd (gq h (o) 4 0) (fun w1 => obd w1 (fun a6 => (if kc h (a6) 3 = true then obd (Ya_stateAt_f n (a6) (x1) h) (fun r7 => bnd (r7.1) (fun w8 => oel (w8) (some (0, 1, r7.2)) (fun a10 => obd (Ti_isClock_f n (x2) r7.2) (fun r12 => (if r12.1 = 0 then some (0, 1, r12.2) else obd (Ti_isClock_f n (x3) r12.2) (fun r14 => (if r14.1 = 0 then some (0, 1, r14.2) else obd (gq r14.2 (a10) 2 3) (fun w16 => obd w16 (fun a21 => (if kc r14.2 (a21) 1 = true then obd (Zo_at_f n (a21) (x2) (x3) r14.2) (fun r22 => some (r22.1, 0, r22.2)) else none)))))))))) else none)))
set_option maxRecDepth 100000 in
set_option maxHeartbeats 8000000 in
theorem Ti_bound_x {F : xF} {G : xG} {B sz : Nat} {Y : Nat → Nat} {o : Nat} (C : xC F G B cTi_bound RTi 5 6 82 1 6) (K : yK B Y (xFs F)) (hst : (xFl F).stackTraces = false) (ht : ∀ x ∈ (xFc F).exceptionTable.toList, False) (hr : (xFM F).sig.returnType = (some .int)) {n : Nat} {x1 : Int32} {x2 : Int32} {x3 : Int32} {h : xH} {R : Int32 × Nat × xH} (hR : Ti_bound_f n o x1 x2 x3 h = some R) : X F G B (tZ F G B (some (.int R.1)) R.2.1 R.2.2 sz 1 6) 5 h sz 0 0 0 [(0, .ref (o)), (1, .int (x1)), (2, .int (x2)), (3, .int (x3))] [] := by
  unfold Ti_bound_f at hR
  refine X_aload_n C dTi_bound_0 rfl ?_
  have hq := o_bind hR
  clear hR
  obtain ⟨w1, hx5, hR⟩ := hq
  obtain ⟨fs2, he3, hv4⟩ := gq_e hx5
  refine X_get (k := 0) C oTi fwTi_10 he3 hv4 dTi_bound_1 ?_
  refine X_iload_n C dTi_bound_4 rfl ?_
  have hq := o_bind hR
  clear hR
  obtain ⟨a6, rfl, hR⟩ := hq
  have hq := o_if hR
  clear hR
  obtain ⟨k26, hR⟩ := hq
  obtain ⟨fs27, he28⟩ := kc_e k26
  have hq := o_bind hR
  clear hR
  obtain ⟨r7, hr7, hR⟩ := hq
  refine X_callVk (As := [.int (x1)]) (rest := []) C (Ya_stateAt_c hr7) wTi_121 ⟨by decide, by decide⟩ ⟨Nat.zero_le _, Nat.zero_le _⟩ he28 oYa.2.1 rfl rfl (Nat.le_of_ble_eq_true rfl) dTi_bound_5 ?_
  show X F G B _ 5 (r7.2) _ _ _ _ _ [va_rf (r7.1)]
  have hq := b_bnd hR
  clear hR
  obtain ⟨w8, e9, hR⟩ := hq
  rw [← e9]
  refine X_astoreq (lv' := [(4, va_rf (w8)), (0, .ref (o)), (1, .int (x1)), (2, .int (x2)), (3, .int (x3))]) C dTi_bound_8 (by decide) rfl ?_
  refine X_aloadq C dTi_bound_10 rfl ?_
  refine X_ifnullq (tgt := 29) C dTi_bound_12 (by decide) (fun e11 => ?_) (fun a10 e11 => ?_)
  · subst e11
    rw [oel_n] at hR
    rw [← Option.some.inj hR]
    exact X_throw (cd := 1) (i := 0) C K hst ht (by decide) yTh1 rfl ⟨by decide, by decide⟩ ⟨by decide, by decide⟩ dTi_bound_29 dTi_bound_32 dTi_bound_33 dTi_bound_35 dTi_bound_38
  · subst e11
    rw [oel_s] at hR
    refine X_iload_n C dTi_bound_15 rfl ?_
    have hq := o_bind hR
    clear hR
    obtain ⟨r12, hr12, hR⟩ := hq
    refine X_callSk (As := [.int (x2)]) (rest := []) C (Ti_isClock_c hr12) wTi_67 ⟨by decide, by decide⟩ ⟨Nat.zero_le _, Nat.zero_le _⟩ rfl rfl (Nat.le_of_ble_eq_true rfl) dTi_bound_16 ?_
    show X F G B _ 5 (r12.2) _ _ _ _ _ [.int (r12.1)]
    refine X_if_eq (tgt := 29) C dTi_bound_19 (by decide) (fun c13 => ?_) (fun c13 => ?_)
    · rw [if_pos c13] at hR
      rw [← Option.some.inj hR]
      exact X_throw (cd := 1) (i := 0) C K hst ht (by decide) yTh1 rfl ⟨by decide, by decide⟩ ⟨by decide, by decide⟩ dTi_bound_29 dTi_bound_32 dTi_bound_33 dTi_bound_35 dTi_bound_38
    · rw [if_neg c13] at hR
      refine X_iload_n C dTi_bound_22 rfl ?_
      have hq := o_bind hR
      clear hR
      obtain ⟨r14, hr14, hR⟩ := hq
      refine X_callSk (As := [.int (x3)]) (rest := []) C (Ti_isClock_c hr14) wTi_67 ⟨by decide, by decide⟩ ⟨Nat.zero_le _, Nat.zero_le _⟩ rfl rfl (Nat.le_of_ble_eq_true rfl) dTi_bound_23 ?_
      show X F G B _ 5 (r14.2) _ _ _ _ _ [.int (r14.1)]
      refine X_if_ne (tgt := 39) C dTi_bound_26 (by decide) (fun c15 => ?_) (fun c15 => ?_)
      · rw [if_neg c15] at hR
        refine X_aload C dTi_bound_39 rfl ?_
        have hq := o_bind hR
        clear hR
        obtain ⟨w16, hx20, hR⟩ := hq
        obtain ⟨fs17, he18, hv19⟩ := gq_e hx20
        refine X_get (k := 3) C oSt fwTi_158 he18 hv19 dTi_bound_41 ?_
        refine X_iload_n C dTi_bound_44 rfl ?_
        refine X_iload_n C dTi_bound_45 rfl ?_
        have hq := o_bind hR
        clear hR
        obtain ⟨a21, rfl, hR⟩ := hq
        have hq := o_if hR
        clear hR
        obtain ⟨k23, hR⟩ := hq
        obtain ⟨fs24, he25⟩ := kc_e k23
        have hq := o_bind hR
        clear hR
        obtain ⟨r22, hr22, hR⟩ := hq
        refine X_callVk (As := [.int (x2), .int (x3)]) (rest := []) C (Zo_at_c hr22) wTi_161 ⟨by decide, by decide⟩ ⟨Nat.zero_le _, Nat.zero_le _⟩ he25 oZo.2.1 rfl rfl (Nat.le_of_ble_eq_true rfl) dTi_bound_46 ?_
        show X F G B _ 5 (r22.2) _ _ _ _ _ [.int (r22.1)]
        rw [← Option.some.inj hR]
        exact X_tret (X_iret C hr (Nat.zero_le _) (Nat.zero_le _) dTi_bound_49 ⟨rfl, rfl, rfl, rfl⟩)
      · rw [if_pos c15] at hR
        rw [← Option.some.inj hR]
        exact X_throw (cd := 1) (i := 0) C K hst ht (by decide) yTh1 rfl ⟨by decide, by decide⟩ ⟨by decide, by decide⟩ dTi_bound_29 dTi_bound_32 dTi_bound_33 dTi_bound_35 dTi_bound_38
theorem Ti_bound_c {l : Launch} (hst : l.stackTraces = false) {G : xG} {B sz : Nat} {Y : Nat → Nat} {o : Nat} {n : Nat} {x1 : Int32} {x2 : Int32} {x3 : Int32} {h : xH} {R : Int32 × Nat × xH} (hR : Ti_bound_f n o x1 x2 x3 h = some R) : tCon l yTi_bound cTi_bound 5 (some .int) 6 82 1 6 G B Y [.ref (o), .int (x1), .int (x2), .int (x3)] h sz (some (.int R.1)) R.2.1 R.2.2 := tCon.of (by decide) (by exact Nat.le_of_ble_eq_true rfl) (fun F e C K hr ht => X_sub (lv' := [(0, .ref (o)), (1, .int (x1)), (2, .int (x2)), (3, .int (x3))]) [0, 1, 2, 3] rfl (Ti_bound_x C K (by rw [e]; exact hst) ht hr hR))
def Ti_handBound_f (n : Nat) (o : Nat) (x1 : Int32) (x2 : Int32) (h : xH) : Option (Int32 × Nat × xH) := obd (Ti_isClock_f n (x1) h) (fun r1 => (if r1.1 = 0 then some (0, 1, r1.2) else obd (Ti_isClock_f n (x2) r1.2) (fun r3 => (if r3.1 = 0 then some (0, 1, r3.2) else obd (gq r3.2 (o) 4 1) (fun w5 => obd w5 (fun a10 => obd (gi r3.2 (a10) 1 2) (fun u11 => (if u11 = 0 then obd (gq r3.2 (o) 4 1) (fun w17 => obd w17 (fun a22 => (if kc r3.2 (a22) 1 = true then obd (Zo_at_f n (a22) (x1) (x2) r3.2) (fun r23 => some (r23.1, 0, r23.2)) else none))) else some (((-2000000) : Int32), 0, r3.2)))))))))
set_option maxRecDepth 100000 in
set_option maxHeartbeats 8000000 in
theorem Ti_handBound_x {F : xF} {G : xG} {B sz : Nat} {Y : Nat → Nat} {o : Nat} (C : xC F G B cTi_handBound RTi 3 6 82 1 6) (K : yK B Y (xFs F)) (hst : (xFl F).stackTraces = false) (ht : ∀ x ∈ (xFc F).exceptionTable.toList, False) (hr : (xFM F).sig.returnType = (some .int)) {n : Nat} {x1 : Int32} {x2 : Int32} {h : xH} {R : Int32 × Nat × xH} (hR : Ti_handBound_f n o x1 x2 h = some R) : X F G B (tZ F G B (some (.int R.1)) R.2.1 R.2.2 sz 1 6) 3 h sz 0 0 0 [(0, .ref (o)), (1, .int (x1)), (2, .int (x2))] [] := by
  unfold Ti_handBound_f at hR
  refine X_iload_n C dTi_handBound_0 rfl ?_
  have hq := o_bind hR
  clear hR
  obtain ⟨r1, hr1, hR⟩ := hq
  refine X_callSk (As := [.int (x1)]) (rest := []) C (Ti_isClock_c hr1) wTi_67 ⟨by decide, by decide⟩ ⟨Nat.zero_le _, Nat.zero_le _⟩ rfl rfl (Nat.le_of_ble_eq_true rfl) dTi_handBound_1 ?_
  show X F G B _ 3 (r1.2) _ _ _ _ _ [.int (r1.1)]
  refine X_if_eq (tgt := 14) C dTi_handBound_4 (by decide) (fun c2 => ?_) (fun c2 => ?_)
  · rw [if_pos c2] at hR
    rw [← Option.some.inj hR]
    exact X_throw (cd := 1) (i := 1) C K hst ht (by decide) yTh1 rfl ⟨by decide, by decide⟩ ⟨by decide, by decide⟩ dTi_handBound_14 dTi_handBound_17 dTi_handBound_18 dTi_handBound_20 dTi_handBound_23
  · rw [if_neg c2] at hR
    refine X_iload_n C dTi_handBound_7 rfl ?_
    have hq := o_bind hR
    clear hR
    obtain ⟨r3, hr3, hR⟩ := hq
    refine X_callSk (As := [.int (x2)]) (rest := []) C (Ti_isClock_c hr3) wTi_67 ⟨by decide, by decide⟩ ⟨Nat.zero_le _, Nat.zero_le _⟩ rfl rfl (Nat.le_of_ble_eq_true rfl) dTi_handBound_8 ?_
    show X F G B _ 3 (r3.2) _ _ _ _ _ [.int (r3.1)]
    refine X_if_ne (tgt := 24) C dTi_handBound_11 (by decide) (fun c4 => ?_) (fun c4 => ?_)
    · rw [if_neg c4] at hR
      refine X_aload_n C dTi_handBound_24 rfl ?_
      have hq := o_bind hR
      clear hR
      obtain ⟨w5, hx9, hR⟩ := hq
      obtain ⟨fs6, he7, hv8⟩ := gq_e hx9
      refine X_get (k := 1) C oTi fwTi_21 he7 hv8 dTi_handBound_25 ?_
      have hq := o_bind hR
      clear hR
      obtain ⟨a10, rfl, hR⟩ := hq
      have hq := o_bind hR
      clear hR
      obtain ⟨u11, hx15, hR⟩ := hq
      obtain ⟨fs12, he13, hv14⟩ := gi_e hx15
      refine X_get (k := 2) C oZo fwTi_186 he13 hv14 dTi_handBound_28 ?_
      refine X_if_eq (tgt := 39) C dTi_handBound_31 (by decide) (fun c16 => ?_) (fun c16 => ?_)
      · rw [if_pos c16] at hR
        refine X_aload_n C dTi_handBound_39 rfl ?_
        have hq := o_bind hR
        clear hR
        obtain ⟨w17, hx21, hR⟩ := hq
        obtain ⟨fs18, he19, hv20⟩ := gq_e hx21
        refine X_get (k := 1) C oTi fwTi_21 he19 hv20 dTi_handBound_40 ?_
        refine X_iload_n C dTi_handBound_43 rfl ?_
        refine X_iload_n C dTi_handBound_44 rfl ?_
        have hq := o_bind hR
        clear hR
        obtain ⟨a22, rfl, hR⟩ := hq
        have hq := o_if hR
        clear hR
        obtain ⟨k24, hR⟩ := hq
        obtain ⟨fs25, he26⟩ := kc_e k24
        have hq := o_bind hR
        clear hR
        obtain ⟨r23, hr23, hR⟩ := hq
        refine X_callVk (As := [.int (x1), .int (x2)]) (rest := []) C (Zo_at_c hr23) wTi_161 ⟨by decide, by decide⟩ ⟨Nat.zero_le _, Nat.zero_le _⟩ he26 oZo.2.1 rfl rfl (Nat.le_of_ble_eq_true rfl) dTi_handBound_45 ?_
        show X F G B _ 3 (r23.2) _ _ _ _ _ [.int (r23.1)]
        rw [← Option.some.inj hR]
        exact X_tret (X_iret C hr (Nat.zero_le _) (Nat.zero_le _) dTi_handBound_48 ⟨rfl, rfl, rfl, rfl⟩)
      · rw [if_neg c16] at hR
        refine X_ldc (v := (-2000000)) C kTi_220 dTi_handBound_34 ?_
        refine X_goto (tgt := 48) C dTi_handBound_36 (by decide) ?_
        rw [← Option.some.inj hR]
        exact X_tret (X_iret C hr (Nat.zero_le _) (Nat.zero_le _) dTi_handBound_48 ⟨rfl, rfl, rfl, rfl⟩)
    · rw [if_pos c4] at hR
      rw [← Option.some.inj hR]
      exact X_throw (cd := 1) (i := 1) C K hst ht (by decide) yTh1 rfl ⟨by decide, by decide⟩ ⟨by decide, by decide⟩ dTi_handBound_14 dTi_handBound_17 dTi_handBound_18 dTi_handBound_20 dTi_handBound_23
theorem Ti_handBound_c {l : Launch} (hst : l.stackTraces = false) {G : xG} {B sz : Nat} {Y : Nat → Nat} {o : Nat} {n : Nat} {x1 : Int32} {x2 : Int32} {h : xH} {R : Int32 × Nat × xH} (hR : Ti_handBound_f n o x1 x2 h = some R) : tCon l yTi_handBound cTi_handBound 3 (some .int) 6 82 1 6 G B Y [.ref (o), .int (x1), .int (x2)] h sz (some (.int R.1)) R.2.1 R.2.2 := tCon.of (by decide) (by exact Nat.le_of_ble_eq_true rfl) (fun F e C K hr ht => X_sub (lv' := [(0, .ref (o)), (1, .int (x1)), (2, .int (x2))]) [0, 1, 2] rfl (Ti_handBound_x C K (by rw [e]; exact hst) ht hr hR))
def Ti_element_f (n : Nat) (o : Nat) (x1 : Int32) (x2 : Int32) (h : xH) : Option (Int64 × Nat × xH) := obd (Ti_isShelf_f n (x1) h) (fun r1 => (if r1.1 = 0 then some (0, 1, r1.2) else obd (gq r1.2 (o) 4 3) (fun w3 => obd w3 (fun a8 => obd (aq r1.2 (a8) 8 (x1)) (fun w9 => oel (w9) (some (0, 2, r1.2)) (fun a16 => (if kc r1.2 (a16) 6 = true then some (0, 2, r1.2) else (if kc r1.2 (a16) 7 = true then some (0, 2, r1.2) else (if kc r1.2 (a16) 8 = true then (if kc r1.2 (a16) 8 = true then (if x2 < 0 then some (0, 2, r1.2) else (if kc r1.2 (a16) 8 = true then obd (Sr_size_f n (a16) r1.2) (fun r32 => (if r32.1 ≤ x2 then some (0, 2, r32.2) else (if kc r32.2 (a16) 8 = true then obd (Sr_valueAt_f n (a16) (x2) r32.2) (fun r37 => some (r37.1, 0, r37.2)) else none))) else none)) else none) else (if kc r1.2 (a16) 9 = true then (if kc r1.2 (a16) 9 = true then (if x2 < 0 then some (0, 2, r1.2) else (if kc r1.2 (a16) 9 = true then obd (Lr_size_f n (a16) r1.2) (fun r48 => (if r48.1 ≤ x2 then some (0, 2, r48.2) else (if kc r48.2 (a16) 9 = true then obd (Lr_valueAt_f n (a16) (x2) r48.2) (fun r53 => some (r53.1, 0, r53.2)) else none))) else none)) else none) else none))))))))))
set_option maxRecDepth 100000 in
set_option maxHeartbeats 8000000 in
theorem Ti_element_x {F : xF} {G : xG} {B sz : Nat} {Y : Nat → Nat} {o : Nat} (C : xC F G B cTi_element RTi 5 6 82 1 6) (K : yK B Y (xFs F)) (hst : (xFl F).stackTraces = false) (ht : ∀ x ∈ (xFc F).exceptionTable.toList, False) (hr : (xFM F).sig.returnType = (some .long)) {n : Nat} {x1 : Int32} {x2 : Int32} {h : xH} {R : Int64 × Nat × xH} (hR : Ti_element_f n o x1 x2 h = some R) : X F G B (tZ F G B (some (.long R.1)) R.2.1 R.2.2 sz 1 6) 5 h sz 0 0 0 [(0, .ref (o)), (1, .int (x1)), (2, .int (x2))] [] := by
  unfold Ti_element_f at hR
  refine X_iload_n C dTi_element_0 rfl ?_
  have hq := o_bind hR
  clear hR
  obtain ⟨r1, hr1, hR⟩ := hq
  refine X_callSk (As := [.int (x1)]) (rest := []) C (Ti_isShelf_c hr1) wTi_231 ⟨by decide, by decide⟩ ⟨Nat.zero_le _, Nat.zero_le _⟩ rfl rfl (Nat.le_of_ble_eq_true rfl) dTi_element_1 ?_
  show X F G B _ 5 (r1.2) _ _ _ _ _ [.int (r1.1)]
  refine X_if_ne (tgt := 17) C dTi_element_4 (by decide) (fun c2 => ?_) (fun c2 => ?_)
  · rw [if_neg c2] at hR
    refine X_aload_n C dTi_element_17 rfl ?_
    have hq := o_bind hR
    clear hR
    obtain ⟨w3, hx7, hR⟩ := hq
    obtain ⟨fs4, he5, hv6⟩ := gq_e hx7
    refine X_get (k := 3) C oTi fwTi_34 he5 hv6 dTi_element_18 ?_
    refine X_iload_n C dTi_element_21 rfl ?_
    have hq := o_bind hR
    clear hR
    obtain ⟨a8, rfl, hR⟩ := hq
    have hq := o_bind hR
    clear hR
    obtain ⟨w9, hx10, hR⟩ := hq
    obtain ⟨n11, f12, he13, hi14, e15⟩ := aq_e hx10
    refine X_aald C rfl he13 hi14 dTi_element_22 ?_
    rw [← e15]
    refine X_astoreq (lv' := [(4, va_rf (w9)), (0, .ref (o)), (1, .int (x1)), (2, .int (x2))]) C dTi_element_23 (by decide) rfl ?_
    refine X_aloadq C dTi_element_25 rfl ?_
    cases w9 with
    | none =>
      rw [oel_n] at hR
      refine X_inst0 C dTi_element_27 ?_
      refine X_if_eq (tgt := 57) C dTi_element_30 (by decide) (fun _ => ?_) (fun c => absurd c (by decide))
      rw [← Option.some.inj hR]
      exact X_throwW (cd := 2) (i := 3) C K hst ht (by decide) yTh2 rfl ⟨by decide, by decide⟩ ⟨by decide, by decide⟩ dTi_element_57 dTi_element_60 dTi_element_61 dTi_element_64 dTi_element_67
    | some a16 =>
      rw [oel_s] at hR
      by_cases k18 : kc r1.2 (a16) 6 = true
      · rw [if_pos k18] at hR
        obtain ⟨fs19, he20⟩ := kc_e k18
        refine X_instNo C oPl.2.1 (by decide) clTi_250 he20 dTi_element_27 ?_
        refine X_if_eq (tgt := 57) C dTi_element_30 (by decide) (fun _ => ?_) (fun c => absurd c (by decide))
        rw [← Option.some.inj hR]
        exact X_throwW (cd := 2) (i := 3) C K hst ht (by decide) yTh2 rfl ⟨by decide, by decide⟩ ⟨by decide, by decide⟩ dTi_element_57 dTi_element_60 dTi_element_61 dTi_element_64 dTi_element_67
      · rw [if_neg k18] at hR
        by_cases k21 : kc r1.2 (a16) 7 = true
        · rw [if_pos k21] at hR
          obtain ⟨fs22, he23⟩ := kc_e k21
          refine X_instNo C oWa.2.1 (by decide) clTi_250 he23 dTi_element_27 ?_
          refine X_if_eq (tgt := 57) C dTi_element_30 (by decide) (fun _ => ?_) (fun c => absurd c (by decide))
          rw [← Option.some.inj hR]
          exact X_throwW (cd := 2) (i := 3) C K hst ht (by decide) yTh2 rfl ⟨by decide, by decide⟩ ⟨by decide, by decide⟩ dTi_element_57 dTi_element_60 dTi_element_61 dTi_element_64 dTi_element_67
        · rw [if_neg k21] at hR
          by_cases k24 : kc r1.2 (a16) 8 = true
          · rw [if_pos k24] at hR
            obtain ⟨fs25, he26⟩ := kc_e k24
            refine X_instY C oSr.2.1 (by decide) clTi_250 he26 dTi_element_27 ?_
            refine X_if_eq (tgt := 57) C dTi_element_30 (by decide) (fun c => absurd c (by decide)) (fun _ => ?_)
            refine X_aload C dTi_element_33 rfl ?_
            by_cases k27 : kc r1.2 (a16) 8 = true
            · rw [if_pos k27] at hR
              obtain ⟨fs28, he29⟩ := kc_e k27
              refine X_castY C oSr.2.1 (by decide) clTi_250 he29 dTi_element_35 ?_
              refine X_astore_n (lv' := [(3, .ref (a16)), (4, .ref (a16)), (0, .ref (o)), (1, .int (x1)), (2, .int (x2))]) C dTi_element_38 (by decide) rfl ?_
              refine X_iload_n C dTi_element_39 rfl ?_
              refine X_if_lt (tgt := 57) C dTi_element_40 (by decide) (fun c30 => ?_) (fun c30 => ?_)
              · rw [if_pos c30] at hR
                rw [← Option.some.inj hR]
                exact X_throwW (cd := 2) (i := 3) C K hst ht (by decide) yTh2 rfl ⟨by decide, by decide⟩ ⟨by decide, by decide⟩ dTi_element_57 dTi_element_60 dTi_element_61 dTi_element_64 dTi_element_67
              · rw [if_neg c30] at hR
                refine X_iload_n C dTi_element_43 rfl ?_
                refine X_aload_n C dTi_element_44 rfl ?_
                by_cases k31 : kc r1.2 (a16) 8 = true
                · rw [if_pos k31] at hR
                  obtain ⟨fs33, he34⟩ := kc_e k31
                  have hq := o_bind hR
                  clear hR
                  obtain ⟨r32, hr32, hR⟩ := hq
                  refine X_callUk (As := []) (rest := [.int (x2)]) C K (Sr_size_c hr32) uTi_252_Sr ⟨by decide, by decide⟩ ⟨Nat.zero_le _, Nat.zero_le _⟩ he34 oSr.2.1 rfl rfl (Nat.le_of_ble_eq_true rfl) dTi_element_45 ?_
                  show X F G B _ 5 (r32.2) _ _ _ _ _ [.int (r32.1), .int (x2)]
                  refine X_icmp_ge (tgt := 57) C dTi_element_48 (by decide) (fun c35 => ?_) (fun c35 => ?_)
                  · rw [if_pos c35] at hR
                    rw [← Option.some.inj hR]
                    exact X_throwW (cd := 2) (i := 3) C K hst ht (by decide) yTh2 rfl ⟨by decide, by decide⟩ ⟨by decide, by decide⟩ dTi_element_57 dTi_element_60 dTi_element_61 dTi_element_64 dTi_element_67
                  · rw [if_neg c35] at hR
                    refine X_aload_n C dTi_element_51 rfl ?_
                    refine X_iload_n C dTi_element_52 rfl ?_
                    by_cases k36 : kc r32.2 (a16) 8 = true
                    · rw [if_pos k36] at hR
                      obtain ⟨fs38, he39⟩ := kc_e k36
                      have hq := o_bind hR
                      clear hR
                      obtain ⟨r37, hr37, hR⟩ := hq
                      refine X_callUk (As := [.int (x2)]) (rest := []) C K (Sr_valueAt_c hr37) uTi_255_Sr ⟨by decide, by decide⟩ ⟨Nat.zero_le _, Nat.zero_le _⟩ he39 oSr.2.1 rfl rfl (Nat.le_of_ble_eq_true rfl) dTi_element_53 ?_
                      show X F G B _ 5 (r37.2) _ _ _ _ _ [.long (r37.1)]
                      rw [← Option.some.inj hR]
                      exact X_tret (X_lret C hr (Nat.zero_le _) (Nat.zero_le _) dTi_element_56 ⟨rfl, rfl, rfl, rfl⟩)
                    · rw [if_neg k36] at hR
                      cases hR
                · rw [if_neg k31] at hR
                  cases hR
            · rw [if_neg k27] at hR
              cases hR
          · rw [if_neg k24] at hR
            by_cases k40 : kc r1.2 (a16) 9 = true
            · rw [if_pos k40] at hR
              obtain ⟨fs41, he42⟩ := kc_e k40
              refine X_instY C oLr.2.1 (by decide) clTi_250 he42 dTi_element_27 ?_
              refine X_if_eq (tgt := 57) C dTi_element_30 (by decide) (fun c => absurd c (by decide)) (fun _ => ?_)
              refine X_aload C dTi_element_33 rfl ?_
              by_cases k43 : kc r1.2 (a16) 9 = true
              · rw [if_pos k43] at hR
                obtain ⟨fs44, he45⟩ := kc_e k43
                refine X_castY C oLr.2.1 (by decide) clTi_250 he45 dTi_element_35 ?_
                refine X_astore_n (lv' := [(3, .ref (a16)), (4, .ref (a16)), (0, .ref (o)), (1, .int (x1)), (2, .int (x2))]) C dTi_element_38 (by decide) rfl ?_
                refine X_iload_n C dTi_element_39 rfl ?_
                refine X_if_lt (tgt := 57) C dTi_element_40 (by decide) (fun c46 => ?_) (fun c46 => ?_)
                · rw [if_pos c46] at hR
                  rw [← Option.some.inj hR]
                  exact X_throwW (cd := 2) (i := 3) C K hst ht (by decide) yTh2 rfl ⟨by decide, by decide⟩ ⟨by decide, by decide⟩ dTi_element_57 dTi_element_60 dTi_element_61 dTi_element_64 dTi_element_67
                · rw [if_neg c46] at hR
                  refine X_iload_n C dTi_element_43 rfl ?_
                  refine X_aload_n C dTi_element_44 rfl ?_
                  by_cases k47 : kc r1.2 (a16) 9 = true
                  · rw [if_pos k47] at hR
                    obtain ⟨fs49, he50⟩ := kc_e k47
                    have hq := o_bind hR
                    clear hR
                    obtain ⟨r48, hr48, hR⟩ := hq
                    refine X_callUk (As := []) (rest := [.int (x2)]) C K (Lr_size_c hr48) uTi_252_Lr ⟨by decide, by decide⟩ ⟨Nat.zero_le _, Nat.zero_le _⟩ he50 oLr.2.1 rfl rfl (Nat.le_of_ble_eq_true rfl) dTi_element_45 ?_
                    show X F G B _ 5 (r48.2) _ _ _ _ _ [.int (r48.1), .int (x2)]
                    refine X_icmp_ge (tgt := 57) C dTi_element_48 (by decide) (fun c51 => ?_) (fun c51 => ?_)
                    · rw [if_pos c51] at hR
                      rw [← Option.some.inj hR]
                      exact X_throwW (cd := 2) (i := 3) C K hst ht (by decide) yTh2 rfl ⟨by decide, by decide⟩ ⟨by decide, by decide⟩ dTi_element_57 dTi_element_60 dTi_element_61 dTi_element_64 dTi_element_67
                    · rw [if_neg c51] at hR
                      refine X_aload_n C dTi_element_51 rfl ?_
                      refine X_iload_n C dTi_element_52 rfl ?_
                      by_cases k52 : kc r48.2 (a16) 9 = true
                      · rw [if_pos k52] at hR
                        obtain ⟨fs54, he55⟩ := kc_e k52
                        have hq := o_bind hR
                        clear hR
                        obtain ⟨r53, hr53, hR⟩ := hq
                        refine X_callUk (As := [.int (x2)]) (rest := []) C K (Lr_valueAt_c hr53) uTi_255_Lr ⟨by decide, by decide⟩ ⟨Nat.zero_le _, Nat.zero_le _⟩ he55 oLr.2.1 rfl rfl (Nat.le_of_ble_eq_true rfl) dTi_element_53 ?_
                        show X F G B _ 5 (r53.2) _ _ _ _ _ [.long (r53.1)]
                        rw [← Option.some.inj hR]
                        exact X_tret (X_lret C hr (Nat.zero_le _) (Nat.zero_le _) dTi_element_56 ⟨rfl, rfl, rfl, rfl⟩)
                      · rw [if_neg k52] at hR
                        cases hR
                  · rw [if_neg k47] at hR
                    cases hR
              · rw [if_neg k43] at hR
                cases hR
            · rw [if_neg k40] at hR
              cases hR
  · rw [if_pos c2] at hR
    rw [← Option.some.inj hR]
    exact X_throw (cd := 1) (i := 2) C K hst ht (by decide) yTh1 rfl ⟨by decide, by decide⟩ ⟨by decide, by decide⟩ dTi_element_7 dTi_element_10 dTi_element_11 dTi_element_13 dTi_element_16
theorem Ti_element_c {l : Launch} (hst : l.stackTraces = false) {G : xG} {B sz : Nat} {Y : Nat → Nat} {o : Nat} {n : Nat} {x1 : Int32} {x2 : Int32} {h : xH} {R : Int64 × Nat × xH} (hR : Ti_element_f n o x1 x2 h = some R) : tCon l yTi_element cTi_element 5 (some .long) 6 82 1 6 G B Y [.ref (o), .int (x1), .int (x2)] h sz (some (.long R.1)) R.2.1 R.2.2 := tCon.of (by decide) (by exact Nat.le_of_ble_eq_true rfl) (fun F e C K hr ht => X_sub (lv' := [(0, .ref (o)), (1, .int (x1)), (2, .int (x2))]) [0, 1, 2] rfl (Ti_element_x C K (by rw [e]; exact hst) ht hr hR))
def Ti_throwFailure_f (n : Nat) (x0 : Int32) (h : xH) : Option (Int32 × Nat × xH) := (if x0 ≤ 0 then (if 0 ≤ x0 then some (0, 0, h) else some (0, 3, h)) else some (0, 2, h))
set_option maxRecDepth 100000 in
set_option maxHeartbeats 8000000 in
theorem Ti_throwFailure_x {F : xF} {G : xG} {B sz : Nat} {Y : Nat → Nat} (C : xC F G B cTi_throwFailure RTi 1 6 82 1 6) (K : yK B Y (xFs F)) (hst : (xFl F).stackTraces = false) (ht : ∀ x ∈ (xFc F).exceptionTable.toList, False) (hr : (xFM F).sig.returnType = none) {n : Nat} {x0 : Int32} {h : xH} {R : Int32 × Nat × xH} (hR : Ti_throwFailure_f n x0 h = some R) : X F G B (tZ F G B none R.2.1 R.2.2 sz 1 6) 1 h sz 0 0 0 [(0, .int (x0))] [] := by
  unfold Ti_throwFailure_f at hR
  refine X_iload_n C dTi_throwFailure_0 rfl ?_
  refine X_if_le (tgt := 15) C dTi_throwFailure_1 (by decide) (fun c1 => ?_) (fun c1 => ?_)
  · rw [if_pos c1] at hR
    refine X_iload_n C dTi_throwFailure_15 rfl ?_
    refine X_if_ge (tgt := 30) C dTi_throwFailure_16 (by decide) (fun c2 => ?_) (fun c2 => ?_)
    · rw [if_pos c2] at hR
      rw [← Option.some.inj hR]
      exact X_tret (X_vret C hr (Nat.zero_le _) (Nat.zero_le _) dTi_throwFailure_30 ⟨rfl, rfl, rfl, rfl⟩)
    · rw [if_neg c2] at hR
      rw [← Option.some.inj hR]
      exact X_throwW (cd := 3) (i := 5) C K hst ht (by decide) yTh3 rfl ⟨by decide, by decide⟩ ⟨by decide, by decide⟩ dTi_throwFailure_19 dTi_throwFailure_22 dTi_throwFailure_23 dTi_throwFailure_26 dTi_throwFailure_29
  · rw [if_neg c1] at hR
    rw [← Option.some.inj hR]
    exact X_throwW (cd := 2) (i := 4) C K hst ht (by decide) yTh2 rfl ⟨by decide, by decide⟩ ⟨by decide, by decide⟩ dTi_throwFailure_4 dTi_throwFailure_7 dTi_throwFailure_8 dTi_throwFailure_11 dTi_throwFailure_14
theorem Ti_throwFailure_c {l : Launch} (hst : l.stackTraces = false) {G : xG} {B sz : Nat} {Y : Nat → Nat} {n : Nat} {x0 : Int32} {h : xH} {R : Int32 × Nat × xH} (hR : Ti_throwFailure_f n x0 h = some R) : tCon l yTi_throwFailure cTi_throwFailure 1 none 6 82 1 6 G B Y [.int (x0)] h sz none R.2.1 R.2.2 := tCon.of (by decide) (by exact Nat.le_of_ble_eq_true rfl) (fun F e C K hr ht => X_sub (lv' := [(0, .int (x0))]) [0] rfl (Ti_throwFailure_x C K (by rw [e]; exact hst) ht hr hR))
