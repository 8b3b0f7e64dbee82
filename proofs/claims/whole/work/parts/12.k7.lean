def Lr_isOfKind_f (n : Nat) (o : Nat) (y1 : Option Nat) (h : xH) : Option (Int32 × xH) := oel (y1) (some ((0 : Int32), h)) (fun a1 => (if kc h (a1) 8 = true then some ((0 : Int32), h) else (if kc h (a1) 9 = true then some ((1 : Int32), h) else none)))
set_option maxRecDepth 100000 in
set_option maxHeartbeats 8000000 in
theorem Lr_isOfKind_x {F : xF} {G : xG} {B sz : Nat} {o : Nat} (C : xC F G B cLr_isOfKind RLr 2 0 0 0 0) (hr : (xFM F).sig.returnType = (some .boolean)) {n : Nat} {y1 : Option Nat} {h : xH} {R : Int32 × xH} (hR : Lr_isOfKind_f n o y1 h = some R) : X F G B (xZ F G B (kP (some (.int R.1)) R.2 sz) 0 0) 2 h sz 0 0 0 [(0, .ref (o)), (1, va_rf (y1))] [] := by
  unfold Lr_isOfKind_f at hR
  refine X_aload_nq C dLr_isOfKind_0 rfl ?_
  cases y1 with
  | none =>
    rw [oel_n] at hR
    refine X_inst0 C dLr_isOfKind_1 ?_
    rw [← Option.some.inj hR]
    exact X_zret C hr rfl (Nat.le_refl _) (Nat.le_refl _) dLr_isOfKind_4 ⟨rfl, rfl, rfl⟩
  | some a1 =>
    rw [oel_s] at hR
    by_cases k3 : kc h (a1) 8 = true
    · rw [if_pos k3] at hR
      obtain ⟨fs4, he5⟩ := kc_e k3
      refine X_instNo C oSr.2.1 (by decide) clLr_8 he5 dLr_isOfKind_1 ?_
      rw [← Option.some.inj hR]
      exact X_zret C hr rfl (Nat.le_refl _) (Nat.le_refl _) dLr_isOfKind_4 ⟨rfl, rfl, rfl⟩
    · rw [if_neg k3] at hR
      by_cases k6 : kc h (a1) 9 = true
      · rw [if_pos k6] at hR
        obtain ⟨fs7, he8⟩ := kc_e k6
        refine X_instY C oLr.2.1 (by decide) clLr_8 he8 dLr_isOfKind_1 ?_
        rw [← Option.some.inj hR]
        exact X_zret C hr rfl (Nat.le_refl _) (Nat.le_refl _) dLr_isOfKind_4 ⟨rfl, rfl, rfl⟩
      · rw [if_neg k6] at hR
        cases hR
theorem Lr_isOfKind_c {l : Launch} {G : xG} {B sz : Nat} {o : Nat} {n : Nat} {y1 : Option Nat} {h : xH} {R : Int32 × xH} (hR : Lr_isOfKind_f n o y1 h = some R) : xCon l yLr_isOfKind cLr_isOfKind 2 (some .boolean) 0 0 0 0 G B [.ref (o), va_rf (y1)] h sz (kP (some (.int R.1)) R.2 sz) := xCon.of (by decide) (by simp [lg_sl, rf_cat, cat_i, cat_r, cat_l]) (fun F e C hr hnm => X_sub (lv' := [(0, .ref (o)), (1, va_rf (y1))]) [0, 1] (by simp [lv_args, lv_pick, rf_cat, cat_i, cat_r, cat_l]) (Lr_isOfKind_x C hr hR))
def Sr_isOfKind_f (n : Nat) (o : Nat) (y1 : Option Nat) (h : xH) : Option (Int32 × xH) := oel (y1) (some ((0 : Int32), h)) (fun a1 => (if kc h (a1) 8 = true then some ((1 : Int32), h) else (if kc h (a1) 9 = true then some ((0 : Int32), h) else none)))
set_option maxRecDepth 100000 in
set_option maxHeartbeats 8000000 in
theorem Sr_isOfKind_x {F : xF} {G : xG} {B sz : Nat} {o : Nat} (C : xC F G B cSr_isOfKind RSr 2 0 0 0 0) (hr : (xFM F).sig.returnType = (some .boolean)) {n : Nat} {y1 : Option Nat} {h : xH} {R : Int32 × xH} (hR : Sr_isOfKind_f n o y1 h = some R) : X F G B (xZ F G B (kP (some (.int R.1)) R.2 sz) 0 0) 2 h sz 0 0 0 [(0, .ref (o)), (1, va_rf (y1))] [] := by
  unfold Sr_isOfKind_f at hR
  refine X_aload_nq C dSr_isOfKind_0 rfl ?_
  cases y1 with
  | none =>
    rw [oel_n] at hR
    refine X_inst0 C dSr_isOfKind_1 ?_
    rw [← Option.some.inj hR]
    exact X_zret C hr rfl (Nat.le_refl _) (Nat.le_refl _) dSr_isOfKind_4 ⟨rfl, rfl, rfl⟩
  | some a1 =>
    rw [oel_s] at hR
    by_cases k3 : kc h (a1) 8 = true
    · rw [if_pos k3] at hR
      obtain ⟨fs4, he5⟩ := kc_e k3
      refine X_instY C oSr.2.1 (by decide) clSr_8 he5 dSr_isOfKind_1 ?_
      rw [← Option.some.inj hR]
      exact X_zret C hr rfl (Nat.le_refl _) (Nat.le_refl _) dSr_isOfKind_4 ⟨rfl, rfl, rfl⟩
    · rw [if_neg k3] at hR
      by_cases k6 : kc h (a1) 9 = true
      · rw [if_pos k6] at hR
        obtain ⟨fs7, he8⟩ := kc_e k6
        refine X_instNo C oLr.2.1 (by decide) clSr_8 he8 dSr_isOfKind_1 ?_
        rw [← Option.some.inj hR]
        exact X_zret C hr rfl (Nat.le_refl _) (Nat.le_refl _) dSr_isOfKind_4 ⟨rfl, rfl, rfl⟩
      · rw [if_neg k6] at hR
        cases hR
theorem Sr_isOfKind_c {l : Launch} {G : xG} {B sz : Nat} {o : Nat} {n : Nat} {y1 : Option Nat} {h : xH} {R : Int32 × xH} (hR : Sr_isOfKind_f n o y1 h = some R) : xCon l ySr_isOfKind cSr_isOfKind 2 (some .boolean) 0 0 0 0 G B [.ref (o), va_rf (y1)] h sz (kP (some (.int R.1)) R.2 sz) := xCon.of (by decide) (by simp [lg_sl, rf_cat, cat_i, cat_r, cat_l]) (fun F e C hr hnm => X_sub (lv' := [(0, .ref (o)), (1, va_rf (y1))]) [0, 1] (by simp [lv_args, lv_pick, rf_cat, cat_i, cat_r, cat_l]) (Sr_isOfKind_x C hr hR))
def Ti_keep_f (n : Nat) (o : Nat) (x1 : Int32) (x2 : Int32) (x3 : Int32) (x4 : Int32) (h : xH) (z : Nat) : Option (Int32 × xH × Nat × Nat) := obd (Ti_isShelf_f n (x1) h) (fun r1 => (if r1.1 = 0 then some (((-1) : Int32), r1.2, 0, 0) else obd (Ti_isBetween_f n (x2) ((0 : Int32)) ((4 : Int32)) r1.2) (fun r3 => (if r3.1 = 0 then some (((-1) : Int32), r3.2, 0, 0) else (if x2 = 0 then obd (gq r3.2 (o) 4 3) (fun w62 => obd w62 (fun a67 => obd (pn r3.2 (a67) 8 (x1)) (fun h68 => some ((0 : Int32), h68, 0, 0)))) else (if kc r3.2 (o) 4 = true then obd (Ti_heldOf_f n (o) (x2) (x3) (x4) r3.2 (z)) (fun r6 => oadd r6.2.2.1 r6.2.2.2 (bnd (r6.1) (fun w7 => oel (w7) (some (((-1) : Int32), r6.2.1, 0, 0)) (fun a9 => obd (gq r6.2.1 (o) 4 3) (fun w11 => obd w11 (fun a16 => (if kc r6.2.1 (a9) 6 = true then obd (pq r6.2.1 (a16) 8 (x1) (a9) 6) (fun h18 => some ((0 : Int32), h18, 0, 0)) else (if kc r6.2.1 (a9) 7 = true then obd (pq r6.2.1 (a16) 8 (x1) (a9) 7) (fun h28 => some ((0 : Int32), h28, 0, 0)) else (if kc r6.2.1 (a9) 8 = true then obd (pq r6.2.1 (a16) 8 (x1) (a9) 8) (fun h38 => some ((0 : Int32), h38, 0, 0)) else (if kc r6.2.1 (a9) 9 = true then obd (pq r6.2.1 (a16) 8 (x1) (a9) 9) (fun h48 => some ((0 : Int32), h48, 0, 0)) else none)))))))))) else none))))))
set_option maxRecDepth 100000 in
set_option maxHeartbeats 8000000 in
theorem Ti_keep_x {F : xF} {G : xG} {B mc ms : Nat} {o : Nat} (C : xC F G B cTi_keep RTi 6 6 132 mc ms) (hr : (xFM F).sig.returnType = (some .int)) {n : Nat} {x1 : Int32} {x2 : Int32} {x3 : Int32} {x4 : Int32} {h : xH} {z cs ss : Nat} {R : Int32 × xH × Nat × Nat} {Zf : Nat} (hm : cs + R.2.2.1 ≤ mc) (hs : ss + R.2.2.2 ≤ ms) (hz : Zf = z + R.2.2.1) (hR : Ti_keep_f n o x1 x2 x3 x4 h z = some R) : X F G B (xZ F G B (kP (some (.int R.1)) R.2.1 Zf) mc ms) 6 h z cs ss 0 [(0, .ref (o)), (1, .int (x1)), (2, .int (x2)), (3, .int (x3)), (4, .int (x4))] [] := by
  unfold Ti_keep_f at hR
  refine X_iload_n C dTi_keep_0 rfl ?_
  have hq := o_bind hR
  clear hR
  obtain ⟨r1, hr1, hR⟩ := hq
  refine X_callSk (As := [.int (x1)]) (rest := []) C (Ti_isShelf_c hr1) wTi_228 ⟨by decide, by decide⟩ ⟨by omega, by omega⟩ rfl rfl (Nat.le_of_ble_eq_true rfl) dTi_keep_1 ?_
  show X F G B _ 6 (r1.2) _ _ _ _ _ [.int (r1.1)]
  refine X_if_eq (tgt := 16) C dTi_keep_4 (by decide) (fun c2 => ?_) (fun c2 => ?_)
  · rw [if_pos c2] at hR
    refine X_iconst (v := (-1)) C dTi_keep_16 rfl ?_
    have hR := Option.some.inj hR
    subst hR
    dsimp only at hm hs hz ⊢
    exact X_iret C hr (by omega) (by omega) dTi_keep_17 ⟨rfl, rfl, by omega⟩
  · rw [if_neg c2] at hR
    refine X_iload_n C dTi_keep_7 rfl ?_
    refine X_iconst (v := 0) C dTi_keep_8 rfl ?_
    refine X_iconst (v := 4) C dTi_keep_9 rfl ?_
    have hq := o_bind hR
    clear hR
    obtain ⟨r3, hr3, hR⟩ := hq
    refine X_callSk (As := [.int (x2), .int ((0 : Int32)), .int ((4 : Int32))]) (rest := []) C (Ti_isBetween_c hr3) wTi_71 ⟨by decide, by decide⟩ ⟨by omega, by omega⟩ rfl rfl (Nat.le_of_ble_eq_true rfl) dTi_keep_10 ?_
    show X F G B _ 6 (r3.2) _ _ _ _ _ [.int (r3.1)]
    refine X_if_ne (tgt := 18) C dTi_keep_13 (by decide) (fun c4 => ?_) (fun c4 => ?_)
    · rw [if_neg c4] at hR
      refine X_iload_n C dTi_keep_18 rfl ?_
      refine X_if_ne (tgt := 31) C dTi_keep_19 (by decide) (fun c5 => ?_) (fun c5 => ?_)
      · rw [if_neg c5] at hR
        refine X_aload_n C dTi_keep_31 rfl ?_
        refine X_iload_n C dTi_keep_32 rfl ?_
        refine X_iload_n C dTi_keep_33 rfl ?_
        refine X_iload C dTi_keep_34 rfl ?_
        have hq := o_if hR
        clear hR
        obtain ⟨k59, hR⟩ := hq
        obtain ⟨fs60, he61⟩ := kc_e k59
        have hq := o_bind hR
        clear hR
        obtain ⟨r6, hr6, hR⟩ := hq
        have hq := o_add hR
        clear hR
        obtain ⟨R58, e57, hR⟩ := hq
        subst e57
        dsimp only at hm hs hz ⊢
        refine X_callVa (As := [.int (x2), .int (x3), .int (x4)]) (rest := []) C (Ti_heldOf_c hr6) wTi_231 ⟨by decide, by decide⟩ ⟨by omega, by omega⟩ he61 oTi.2.1 rfl rfl (Nat.le_of_ble_eq_true rfl) dTi_keep_36 ?_
        show X F G B _ 6 (r6.2.1) _ _ _ _ _ [va_rf (r6.1)]
        have hq := b_bnd hR
        clear hR
        obtain ⟨w7, e8, hR⟩ := hq
        rw [← e8]
        refine X_astoreq (lv' := [(5, va_rf (w7)), (0, .ref (o)), (1, .int (x1)), (2, .int (x2)), (3, .int (x3)), (4, .int (x4))]) C dTi_keep_39 (by decide) rfl ?_
        refine X_aloadq C dTi_keep_41 rfl ?_
        refine X_ifnonnullq (tgt := 48) C dTi_keep_43 (by decide) (fun a9 e10 => ?_) (fun e10 => ?_)
        · subst e10
          rw [oel_s] at hR
          refine X_aload_n C dTi_keep_48 rfl ?_
          have hq := o_bind hR
          clear hR
          obtain ⟨w11, hx15, hR⟩ := hq
          obtain ⟨fs12, he13, hv14⟩ := gq_e hx15
          refine X_get (k := 3) C oTi fwTi_34 he13 hv14 dTi_keep_49 ?_
          refine X_iload_n C dTi_keep_52 rfl ?_
          refine X_aload C dTi_keep_53 rfl ?_
          have hq := o_bind hR
          clear hR
          obtain ⟨a16, rfl, hR⟩ := hq
          by_cases k17 : kc r6.2.1 (a9) 6 = true
          · rw [if_pos k17] at hR
            have hq := o_bind hR
            clear hR
            obtain ⟨h18, hh19, hR⟩ := hq
            obtain ⟨n20, f21, vs22, he23, hv24, hi25, e26⟩ := pq_e hh19
            refine X_aastY C rfl oPl.2.1 (by decide) he23 hv24 hi25 dTi_keep_55 ?_
            rw [← e26]
            refine X_iconst (v := 0) C dTi_keep_56 rfl ?_
            have hR := Option.some.inj hR
            subst hR
            dsimp only at hm hs hz ⊢
            exact X_iret C hr (by omega) (by omega) dTi_keep_57 ⟨rfl, rfl, by omega⟩
          · rw [if_neg k17] at hR
            by_cases k27 : kc r6.2.1 (a9) 7 = true
            · rw [if_pos k27] at hR
              have hq := o_bind hR
              clear hR
              obtain ⟨h28, hh29, hR⟩ := hq
              obtain ⟨n30, f31, vs32, he33, hv34, hi35, e36⟩ := pq_e hh29
              refine X_aastY C rfl oWa.2.1 (by decide) he33 hv34 hi35 dTi_keep_55 ?_
              rw [← e36]
              refine X_iconst (v := 0) C dTi_keep_56 rfl ?_
              have hR := Option.some.inj hR
              subst hR
              dsimp only at hm hs hz ⊢
              exact X_iret C hr (by omega) (by omega) dTi_keep_57 ⟨rfl, rfl, by omega⟩
            · rw [if_neg k27] at hR
              by_cases k37 : kc r6.2.1 (a9) 8 = true
              · rw [if_pos k37] at hR
                have hq := o_bind hR
                clear hR
                obtain ⟨h38, hh39, hR⟩ := hq
                obtain ⟨n40, f41, vs42, he43, hv44, hi45, e46⟩ := pq_e hh39
                refine X_aastY C rfl oSr.2.1 (by decide) he43 hv44 hi45 dTi_keep_55 ?_
                rw [← e46]
                refine X_iconst (v := 0) C dTi_keep_56 rfl ?_
                have hR := Option.some.inj hR
                subst hR
                dsimp only at hm hs hz ⊢
                exact X_iret C hr (by omega) (by omega) dTi_keep_57 ⟨rfl, rfl, by omega⟩
              · rw [if_neg k37] at hR
                by_cases k47 : kc r6.2.1 (a9) 9 = true
                · rw [if_pos k47] at hR
                  have hq := o_bind hR
                  clear hR
                  obtain ⟨h48, hh49, hR⟩ := hq
                  obtain ⟨n50, f51, vs52, he53, hv54, hi55, e56⟩ := pq_e hh49
                  refine X_aastY C rfl oLr.2.1 (by decide) he53 hv54 hi55 dTi_keep_55 ?_
                  rw [← e56]
                  refine X_iconst (v := 0) C dTi_keep_56 rfl ?_
                  have hR := Option.some.inj hR
                  subst hR
                  dsimp only at hm hs hz ⊢
                  exact X_iret C hr (by omega) (by omega) dTi_keep_57 ⟨rfl, rfl, by omega⟩
                · rw [if_neg k47] at hR
                  cases hR
        · subst e10
          rw [oel_n] at hR
          refine X_iconst (v := (-1)) C dTi_keep_46 rfl ?_
          have hR := Option.some.inj hR
          subst hR
          dsimp only at hm hs hz ⊢
          exact X_iret C hr (by omega) (by omega) dTi_keep_47 ⟨rfl, rfl, by omega⟩
      · rw [if_pos c5] at hR
        refine X_aload_n C dTi_keep_22 rfl ?_
        have hq := o_bind hR
        clear hR
        obtain ⟨w62, hx66, hR⟩ := hq
        obtain ⟨fs63, he64, hv65⟩ := gq_e hx66
        refine X_get (k := 3) C oTi fwTi_34 he64 hv65 dTi_keep_23 ?_
        refine X_iload_n C dTi_keep_26 rfl ?_
        refine X_null C dTi_keep_27 ?_
        have hq := o_bind hR
        clear hR
        obtain ⟨a67, rfl, hR⟩ := hq
        have hq := o_bind hR
        clear hR
        obtain ⟨h68, hh69, hR⟩ := hq
        obtain ⟨n70, f71, he72, hi73, e74⟩ := pn_e hh69
        refine X_aastN C rfl he72 hi73 dTi_keep_28 ?_
        rw [← e74]
        refine X_iconst (v := 0) C dTi_keep_29 rfl ?_
        have hR := Option.some.inj hR
        subst hR
        dsimp only at hm hs hz ⊢
        exact X_iret C hr (by omega) (by omega) dTi_keep_30 ⟨rfl, rfl, by omega⟩
    · rw [if_pos c4] at hR
      refine X_iconst (v := (-1)) C dTi_keep_16 rfl ?_
      have hR := Option.some.inj hR
      subst hR
      dsimp only at hm hs hz ⊢
      exact X_iret C hr (by omega) (by omega) dTi_keep_17 ⟨rfl, rfl, by omega⟩
theorem Ti_keep_c {l : Launch} {G : xG} {B sz : Nat} {o : Nat} {n : Nat} {x1 : Int32} {x2 : Int32} {x3 : Int32} {x4 : Int32} {h : xH} {R : Int32 × xH × Nat × Nat} (hR : Ti_keep_f n o x1 x2 x3 x4 h sz = some R) : xCon l yTi_keep cTi_keep 6 (some .int) 6 132 R.2.2.1 R.2.2.2 G B [.ref (o), .int (x1), .int (x2), .int (x3), .int (x4)] h sz (kP (some (.int R.1)) R.2.1 (sz + R.2.2.1)) := xCon.of (by decide) (by exact Nat.le_of_ble_eq_true rfl) (fun F e C hr hnm => X_sub (lv' := [(0, .ref (o)), (1, .int (x1)), (2, .int (x2)), (3, .int (x3)), (4, .int (x4))]) [0, 1, 2, 3, 4] rfl (Ti_keep_x C hr (Nat.le_of_eq (Nat.zero_add _)) (Nat.le_of_eq (Nat.zero_add _)) rfl hR))
def Ti_make_f (n : Nat) (o : Nat) (x1 : Int32) (x2 : Int32) (x3 : Int32) (h : xH) (z : Nat) : Option (Int32 × xH × Nat × Nat) := obd (Ti_isShelf_f n (x1) h) (fun r1 => (if r1.1 = 0 then some (((-1) : Int32), r1.2, 0, 0) else obd (Ti_isBetween_f n (x2) ((3 : Int32)) ((4 : Int32)) r1.2) (fun r3 => (if r3.1 = 0 then some (((-1) : Int32), r3.2, 0, 0) else (if x3 ≤ (60 : Int32) then (if 0 ≤ x3 then (if x2 = (3 : Int32) then obd (gq r3.2 (o) 4 3) (fun w33 => oadd 1 1 (bnd (xup r3.2 (z) (.inr (8, [.null]))) (fun h38 => (if nb (x3) = true then oadd 1 (Int32.toNatClampNeg (x3)) (bnd (xup h38 (z + 1) (.inl (3, (Int32.toNatClampNeg (x3)), .inl (fun _ => 0)))) (fun h43 => obd (Sr_init_f n (z) (some (z + 1)) h43) (fun r47 => obd w33 (fun a48 => obd (pq r47.2 (a48) 8 (x1) (z) 8) (fun h49 => some ((0 : Int32), h49, 0, 0)))))) else none)))) else obd (gq r3.2 (o) 4 3) (fun w8 => oadd 1 1 (bnd (xup r3.2 (z) (.inr (9, [.null]))) (fun h13 => (if nb (x3) = true then oadd 1 (Int32.toNatClampNeg (x3)) (bnd (xup h13 (z + 1) (.inl (1, (Int32.toNatClampNeg (x3)), .inr (.inl (fun _ => 0))))) (fun h18 => obd (Lr_init_f n (z) (some (z + 1)) h18) (fun r22 => obd w8 (fun a23 => obd (pq r22.2 (a23) 8 (x1) (z) 9) (fun h24 => some ((0 : Int32), h24, 0, 0)))))) else none))))) else some (((-14) : Int32), r3.2, 0, 0)) else some (((-1) : Int32), r3.2, 0, 0))))))
set_option maxRecDepth 100000 in
set_option maxHeartbeats 8000000 in
theorem Ti_make_x {F : xF} {G : xG} {B mc ms : Nat} {o : Nat} (C : xC F G B cTi_make RTi 4 4 82 mc ms) (hr : (xFM F).sig.returnType = (some .int)) {n : Nat} {x1 : Int32} {x2 : Int32} {x3 : Int32} {h : xH} {z cs ss : Nat} {R : Int32 × xH × Nat × Nat} {Zf : Nat} (hm : cs + R.2.2.1 ≤ mc) (hs : ss + R.2.2.2 ≤ ms) (hz : Zf = z + R.2.2.1) (hR : Ti_make_f n o x1 x2 x3 h z = some R) : X F G B (xZ F G B (kP (some (.int R.1)) R.2.1 Zf) mc ms) 4 h z cs ss 0 [(0, .ref (o)), (1, .int (x1)), (2, .int (x2)), (3, .int (x3))] [] := by
  unfold Ti_make_f at hR
  refine X_iload_n C dTi_make_0 rfl ?_
  have hq := o_bind hR
  clear hR
  obtain ⟨r1, hr1, hR⟩ := hq
  refine X_callSk (As := [.int (x1)]) (rest := []) C (Ti_isShelf_c hr1) wTi_228 ⟨by decide, by decide⟩ ⟨by omega, by omega⟩ rfl rfl (Nat.le_of_ble_eq_true rfl) dTi_make_1 ?_
  show X F G B _ 4 (r1.2) _ _ _ _ _ [.int (r1.1)]
  refine X_if_eq (tgt := 22) C dTi_make_4 (by decide) (fun c2 => ?_) (fun c2 => ?_)
  · rw [if_pos c2] at hR
    refine X_iconst (v := (-1)) C dTi_make_22 rfl ?_
    have hR := Option.some.inj hR
    subst hR
    dsimp only at hm hs hz ⊢
    exact X_iret C hr (by omega) (by omega) dTi_make_23 ⟨rfl, rfl, by omega⟩
  · rw [if_neg c2] at hR
    refine X_iload_n C dTi_make_7 rfl ?_
    refine X_iconst (v := 3) C dTi_make_8 rfl ?_
    refine X_iconst (v := 4) C dTi_make_9 rfl ?_
    have hq := o_bind hR
    clear hR
    obtain ⟨r3, hr3, hR⟩ := hq
    refine X_callSk (As := [.int (x2), .int ((3 : Int32)), .int ((4 : Int32))]) (rest := []) C (Ti_isBetween_c hr3) wTi_71 ⟨by decide, by decide⟩ ⟨by omega, by omega⟩ rfl rfl (Nat.le_of_ble_eq_true rfl) dTi_make_10 ?_
    show X F G B _ 4 (r3.2) _ _ _ _ _ [.int (r3.1)]
    refine X_if_eq (tgt := 22) C dTi_make_13 (by decide) (fun c4 => ?_) (fun c4 => ?_)
    · rw [if_pos c4] at hR
      refine X_iconst (v := (-1)) C dTi_make_22 rfl ?_
      have hR := Option.some.inj hR
      subst hR
      dsimp only at hm hs hz ⊢
      exact X_iret C hr (by omega) (by omega) dTi_make_23 ⟨rfl, rfl, by omega⟩
    · rw [if_neg c4] at hR
      refine X_iload_n C dTi_make_16 rfl ?_
      refine X_bipush (v := 60) C dTi_make_17 (by decide) ?_
      refine X_icmp_le (tgt := 24) C dTi_make_19 (by decide) (fun c5 => ?_) (fun c5 => ?_)
      · rw [if_pos c5] at hR
        refine X_iload_n C dTi_make_24 rfl ?_
        refine X_if_ge (tgt := 31) C dTi_make_25 (by decide) (fun c6 => ?_) (fun c6 => ?_)
        · rw [if_pos c6] at hR
          refine X_iload_n C dTi_make_31 rfl ?_
          refine X_iconst (v := 3) C dTi_make_32 rfl ?_
          refine X_icmp_ne (tgt := 55) C dTi_make_33 (by decide) (fun c7 => ?_) (fun c7 => ?_)
          · rw [if_neg c7] at hR
            refine X_aload_n C dTi_make_55 rfl ?_
            have hq := o_bind hR
            clear hR
            obtain ⟨w8, hx12, hR⟩ := hq
            obtain ⟨fs9, he10, hv11⟩ := gq_e hx12
            refine X_get (k := 3) C oTi fwTi_34 he10 hv11 dTi_make_56 ?_
            refine X_iload_n C dTi_make_59 rfl ?_
            have hq := o_add hR
            clear hR
            obtain ⟨R16, e15, hR⟩ := hq
            subst e15
            dsimp only at hm hs hz ⊢
            refine X_new (fs := [.null]) C oLr nwTi_240 (fun j hj => by rcases (show j = 0 by omega) with rfl <;> rfl) (by omega) (by omega) dTi_make_60 (fun _ _ => ?_)
            have hq := b_bnd hR
            clear hR
            obtain ⟨h13, e14, hR⟩ := hq
            rw [← e14]
            refine X_dup C dTi_make_63 rfl ?_
            refine X_iload_n C dTi_make_64 rfl ?_
            have hq := o_if hR
            clear hR
            obtain ⟨b17, hR⟩ := hq
            have hq := o_add hR
            clear hR
            obtain ⟨R21, e20, hR⟩ := hq
            subst e20
            dsimp only at hm hs hz ⊢
            refine X_newa (k := 1) (N := (Int32.toNatClampNeg (x3))) (ty := .long) (a0 := ((Int32.toNatClampNeg (x3)), .inr (.inl (fun _ => 0)))) C rfl na_long (fun _ => rfl) (nb_e b17).1 rfl (by have := (nb_e b17).2; simp only [componentBytes]; omega) (by omega) (by omega) dTi_make_65 (fun _ _ => ?_)
            have hq := b_bnd hR
            clear hR
            obtain ⟨h18, e19, hR⟩ := hq
            rw [← e19]
            have hq := o_bind hR
            clear hR
            obtain ⟨r22, hr22, hR⟩ := hq
            refine X_callIk (As := [.ref (z + 1)]) (rest := [.ref (z), .int (x1), va_rf (w8)]) C (Lr_init_c hr22) wTi_242 ⟨by decide, by decide⟩ ⟨by omega, by omega⟩ rfl rfl (by simp [rf_cat, cat_i, cat_r, cat_l]) dTi_make_67 ?_
            show X F G B _ 4 (r22.2) _ _ _ _ _ [.ref (z), .int (x1), va_rf (w8)]
            have hq := o_bind hR
            clear hR
            obtain ⟨a23, rfl, hR⟩ := hq
            have hq := o_bind hR
            clear hR
            obtain ⟨h24, hh25, hR⟩ := hq
            obtain ⟨n26, f27, vs28, he29, hv30, hi31, e32⟩ := pq_e hh25
            refine X_aastY C rfl oLr.2.1 (by decide) he29 hv30 hi31 dTi_make_70 ?_
            rw [← e32]
            refine X_iconst (v := 0) C dTi_make_71 rfl ?_
            have hR := Option.some.inj hR
            subst hR
            dsimp only at hm hs hz ⊢
            exact X_iret C hr (by omega) (by omega) dTi_make_72 ⟨rfl, rfl, by omega⟩
          · rw [if_pos c7] at hR
            refine X_aload_n C dTi_make_36 rfl ?_
            have hq := o_bind hR
            clear hR
            obtain ⟨w33, hx37, hR⟩ := hq
            obtain ⟨fs34, he35, hv36⟩ := gq_e hx37
            refine X_get (k := 3) C oTi fwTi_34 he35 hv36 dTi_make_37 ?_
            refine X_iload_n C dTi_make_40 rfl ?_
            have hq := o_add hR
            clear hR
            obtain ⟨R41, e40, hR⟩ := hq
            subst e40
            dsimp only at hm hs hz ⊢
            refine X_new (fs := [.null]) C oSr nwTi_235 (fun j hj => by rcases (show j = 0 by omega) with rfl <;> rfl) (by omega) (by omega) dTi_make_41 (fun _ _ => ?_)
            have hq := b_bnd hR
            clear hR
            obtain ⟨h38, e39, hR⟩ := hq
            rw [← e39]
            refine X_dup C dTi_make_44 rfl ?_
            refine X_iload_n C dTi_make_45 rfl ?_
            have hq := o_if hR
            clear hR
            obtain ⟨b42, hR⟩ := hq
            have hq := o_add hR
            clear hR
            obtain ⟨R46, e45, hR⟩ := hq
            subst e45
            dsimp only at hm hs hz ⊢
            refine X_newa (k := 3) (N := (Int32.toNatClampNeg (x3))) (ty := .short) (a0 := ((Int32.toNatClampNeg (x3)), .inl (fun _ => 0))) C rfl na_short (fun _ => rfl) (nb_e b42).1 rfl (by have := (nb_e b42).2; simp only [componentBytes]; omega) (by omega) (by omega) dTi_make_46 (fun _ _ => ?_)
            have hq := b_bnd hR
            clear hR
            obtain ⟨h43, e44, hR⟩ := hq
            rw [← e44]
            have hq := o_bind hR
            clear hR
            obtain ⟨r47, hr47, hR⟩ := hq
            refine X_callIk (As := [.ref (z + 1)]) (rest := [.ref (z), .int (x1), va_rf (w33)]) C (Sr_init_c hr47) wTi_237 ⟨by decide, by decide⟩ ⟨by omega, by omega⟩ rfl rfl (by simp [rf_cat, cat_i, cat_r, cat_l]) dTi_make_48 ?_
            show X F G B _ 4 (r47.2) _ _ _ _ _ [.ref (z), .int (x1), va_rf (w33)]
            have hq := o_bind hR
            clear hR
            obtain ⟨a48, rfl, hR⟩ := hq
            have hq := o_bind hR
            clear hR
            obtain ⟨h49, hh50, hR⟩ := hq
            obtain ⟨n51, f52, vs53, he54, hv55, hi56, e57⟩ := pq_e hh50
            refine X_aastY C rfl oSr.2.1 (by decide) he54 hv55 hi56 dTi_make_51 ?_
            rw [← e57]
            refine X_goto (tgt := 71) C dTi_make_52 (by decide) ?_
            refine X_iconst (v := 0) C dTi_make_71 rfl ?_
            have hR := Option.some.inj hR
            subst hR
            dsimp only at hm hs hz ⊢
            exact X_iret C hr (by omega) (by omega) dTi_make_72 ⟨rfl, rfl, by omega⟩
        · rw [if_neg c6] at hR
          refine X_bipush (v := (-14)) C dTi_make_28 (by decide) ?_
          have hR := Option.some.inj hR
          subst hR
          dsimp only at hm hs hz ⊢
          exact X_iret C hr (by omega) (by omega) dTi_make_30 ⟨rfl, rfl, by omega⟩
      · rw [if_neg c5] at hR
        refine X_iconst (v := (-1)) C dTi_make_22 rfl ?_
        have hR := Option.some.inj hR
        subst hR
        dsimp only at hm hs hz ⊢
        exact X_iret C hr (by omega) (by omega) dTi_make_23 ⟨rfl, rfl, by omega⟩
theorem Ti_make_c {l : Launch} {G : xG} {B sz : Nat} {o : Nat} {n : Nat} {x1 : Int32} {x2 : Int32} {x3 : Int32} {h : xH} {R : Int32 × xH × Nat × Nat} (hR : Ti_make_f n o x1 x2 x3 h sz = some R) : xCon l yTi_make cTi_make 4 (some .int) 4 82 R.2.2.1 R.2.2.2 G B [.ref (o), .int (x1), .int (x2), .int (x3)] h sz (kP (some (.int R.1)) R.2.1 (sz + R.2.2.1)) := xCon.of (by decide) (by exact Nat.le_of_ble_eq_true rfl) (fun F e C hr hnm => X_sub (lv' := [(0, .ref (o)), (1, .int (x1)), (2, .int (x2)), (3, .int (x3))]) [0, 1, 2, 3] rfl (Ti_make_x C hr (Nat.le_of_eq (Nat.zero_add _)) (Nat.le_of_eq (Nat.zero_add _)) rfl hR))
