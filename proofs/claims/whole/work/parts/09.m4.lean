def Mo_isState_f (n : Nat) (x1 : Int32) (σ : mS) (τ : mL) : Option (Int32 × mS × mL) := (if x1 < 0 then some ((0 : Int32), σ, τ) else (if σ 22 0 ≤ x1 then some ((0 : Int32), σ, τ) else some ((1 : Int32), σ, τ)))
set_option maxRecDepth 100000 in
set_option maxHeartbeats 8000000 in
theorem Mo_isState_x {F : xF} {G : xG} {B : Nat} {M : xM} (C : xC F G B cMo_isState RMo 2 0 0 0 0) (hr : (xFM F).sig.returnType = (some .boolean)) {n : Nat} {x1 : Int32} {σ : mS} {τ : mL} {R : Int32 × mS × mL} (hR : Mo_isState_f n x1 σ τ = some R) : XM F G B (xZ F G B (mP M (some (.int R.1)) R.2.1 R.2.2) 0 0) 2 M σ τ 0 [(0, .ref (M.1)), (1, .int (x1))] [] := by
  unfold Mo_isState_f at hR
  refine XM_iload_n C dMo_isState_0 rfl ?_
  refine XM_if_lt (tgt := 16) C dMo_isState_1 (by decide) (fun c1 => ?_) (fun c1 => ?_)
  · rw [if_pos c1] at hR
    refine XM_iconst (v := 0) C dMo_isState_16 rfl ?_
    have hR := Option.some.inj hR
    subst hR
    exact XM_zret C hr rfl dMo_isState_17 rfl rfl rfl
  · rw [if_neg c1] at hR
    refine XM_iload_n C dMo_isState_4 rfl ?_
    refine XM_aload_n C dMo_isState_5 rfl ?_
    refine XM_get (k := 22) (v := .int (σ 22 0)) C rfl fwMo_199 dMo_isState_6 ?_
    refine XM_icmp_ge (tgt := 16) C dMo_isState_9 (by decide) (fun c2 => ?_) (fun c2 => ?_)
    · rw [if_pos c2] at hR
      refine XM_iconst (v := 0) C dMo_isState_16 rfl ?_
      have hR := Option.some.inj hR
      subst hR
      exact XM_zret C hr rfl dMo_isState_17 rfl rfl rfl
    · rw [if_neg c2] at hR
      refine XM_iconst (v := 1) C dMo_isState_12 rfl ?_
      refine XM_goto (tgt := 17) C dMo_isState_13 (by decide) ?_
      have hR := Option.some.inj hR
      subst hR
      exact XM_zret C hr rfl dMo_isState_17 rfl rfl rfl
theorem Mo_isState_c {l : Launch} {G : xG} {B : Nat} {M : xM} {n : Nat} {x1 : Int32} {σ : mS} {τ : mL} {R : Int32 × mS × mL} (hR : Mo_isState_f n x1 σ τ = some R) : mCon l yMo_isState cMo_isState 2 (some .boolean) 0 0 G B M [.ref M.1, .int x1] σ τ (some (.int R.1)) R.2.1 R.2.2 := mCon.of (by decide) (Nat.le_of_ble_eq_true rfl) (fun F e C hr => XM_sub (lv' := [(0, .ref (M.1)), (1, .int (x1))]) [0, 1] rfl (Mo_isState_x C hr hR))
def Mo_state_f (n : Nat) (x1 : Int32) (x2 : Int32) (σ : mS) (τ : mL) : Option (Int32 × mS × mL) := bnd (su σ 0 0 ((0 : Int32))) (fun s1 => obd (Mo_isState_f n (x1) s1 τ) (fun r2 => (if r2.1 = 0 then some (((-1) : Int32), r2.2.1, r2.2.2) else (if Mo_isIn_f (Int32.toInt64 (x2)) ((0 : Int64)) ((6 : Int64)) = 0 then some (((-1) : Int32), r2.2.1, r2.2.2) else (if x2 = 3 then (if xin (x1) 200 = true then (if 0 ≤ r2.2.1 27 (Int32.toNatClampNeg (x1)) then (if xin (x1) 200 = true then some (r2.2.1 27 (Int32.toNatClampNeg (x1)), r2.2.1, r2.2.2) else none) else some (((-2) : Int32), r2.2.1, r2.2.2)) else none) else (if x2 = 4 then (if xin (x1) 200 = true then some (r2.2.1 28 (Int32.toNatClampNeg (x1)), r2.2.1, r2.2.2) else none) else (if x2 = 5 then (if xin (x1) 200 = true then some (r2.2.1 29 (Int32.toNatClampNeg (x1)), r2.2.1, r2.2.2) else none) else (if x2 = 6 then (if xin (x1) 200 = true then some (r2.2.1 30 (Int32.toNatClampNeg (x1)), r2.2.1, r2.2.2) else none) else (if xin ((((3 : Int32)) * (x1)) + (x2)) 600 = true then some (r2.2.1 24 (Int32.toNatClampNeg ((((3 : Int32)) * (x1)) + (x2))), r2.2.1, r2.2.2) else none)))))))))
set_option maxRecDepth 100000 in
set_option maxHeartbeats 8000000 in
theorem Mo_state_x {F : xF} {G : xG} {B : Nat} {M : xM} (C : xC F G B cMo_state RMo 3 1 25 0 0) (hr : (xFM F).sig.returnType = (some .int)) {n : Nat} {x1 x2 : Int32} {σ : mS} {τ : mL} {R : Int32 × mS × mL} (hR : Mo_state_f n x1 x2 σ τ = some R) : XM F G B (xZ F G B (mP M (some (.int R.1)) R.2.1 R.2.2) 0 0) 3 M σ τ 0 [(0, .ref (M.1)), (1, .int (x1)), (2, .int (x2))] [] := by
  unfold Mo_state_f at hR
  refine XM_aload_n C dMo_state_0 rfl ?_
  refine XM_iconst (v := 0) C dMo_state_1 rfl ?_
  refine XM_put (k := 0) C rfl fwMo_124 rfl rfl rfl dMo_state_2 ?_
  obtain ⟨s1, es1, hR⟩ := b_bnd hR
  rw [← es1]
  refine XM_aload_n C dMo_state_5 rfl ?_
  refine XM_iload_n C dMo_state_6 rfl ?_
  obtain ⟨r2, hr2, hR⟩ := o_bind hR
  refine XM_callVi (As := [.int (x1)]) (rest := []) C (Mo_isState_c hr2) wMo_275 ⟨by decide, by decide⟩ rfl rfl (Nat.le_of_ble_eq_true rfl) dMo_state_7 ?_
  refine XM_if_eq (tgt := 25) C dMo_state_10 (by decide) (fun c3 => ?_) (fun c3 => ?_)
  · rw [if_pos c3] at hR
    refine XM_iconst (v := (-1)) C dMo_state_25 rfl ?_
    have hR := Option.some.inj hR
    subst hR
    exact XM_iret C hr dMo_state_26 rfl rfl rfl
  · rw [if_neg c3] at hR
    refine XM_iload_n C dMo_state_13 rfl ?_
    refine XM_i2l C dMo_state_14 ?_
    refine XM_lconst (v := 0) C dMo_state_15 rfl ?_
    refine XM_ldc2 (v := 6) C kMo_278 dMo_state_16 ?_
    refine XM_callSi (As := [.long (Int32.toInt64 (x2)), .long ((0 : Int64)), .long ((6 : Int64))]) (rest := []) C (Mo_isIn_c (Int32.toInt64 (x2)) ((0 : Int64)) ((6 : Int64))) wMo_141 ⟨by decide, by decide⟩ rfl rfl (Nat.le_of_ble_eq_true rfl) dMo_state_19 ?_
    refine XM_if_ne (tgt := 27) C dMo_state_22 (by decide) (fun c4 => ?_) (fun c4 => ?_)
    · rw [if_neg c4] at hR
      refine XM_iload_n C dMo_state_27 rfl ?_
      by_cases c5 : x2 = 3
      · rw [if_pos c5] at hR
        refine XM_tableIn (off := 32) (tgt := 60) C dMo_state_28 (by rw [c5]; decide) (by rw [c5]; decide) (by rw [c5]; rfl) (by decide) ?_
        refine XM_aload_n C dMo_state_60 rfl ?_
        refine XM_get (k := 27) (v := .ref (M.2.1 27)) C rfl fwMo_67 dMo_state_61 ?_
        refine XM_iload_n C dMo_state_64 rfl ?_
        obtain ⟨q6, hR⟩ := o_if hR
        refine XM_iald (k := 27) (n := 200) C rfl (xin_vp q6) dMo_state_65 ?_
        refine XM_if_ge (tgt := 74) C dMo_state_66 (by decide) (fun c7 => ?_) (fun c7 => ?_)
        · rw [if_pos c7] at hR
          refine XM_aload_n C dMo_state_74 rfl ?_
          refine XM_get (k := 27) (v := .ref (M.2.1 27)) C rfl fwMo_67 dMo_state_75 ?_
          refine XM_iload_n C dMo_state_78 rfl ?_
          obtain ⟨q8, hR⟩ := o_if hR
          refine XM_iald (k := 27) (n := 200) C rfl (xin_vp q8) dMo_state_79 ?_
          have hR := Option.some.inj hR
          subst hR
          exact XM_iret C hr dMo_state_80 rfl rfl rfl
        · rw [if_neg c7] at hR
          refine XM_bipush (v := (-2)) C dMo_state_69 (by decide) ?_
          refine XM_goto (tgt := 80) C dMo_state_71 (by decide) ?_
          have hR := Option.some.inj hR
          subst hR
          exact XM_iret C hr dMo_state_80 rfl rfl rfl
      · rw [if_neg c5] at hR
        by_cases c9 : x2 = 4
        · rw [if_pos c9] at hR
          refine XM_tableIn (off := 53) (tgt := 81) C dMo_state_28 (by rw [c9]; decide) (by rw [c9]; decide) (by rw [c9]; rfl) (by decide) ?_
          refine XM_aload_n C dMo_state_81 rfl ?_
          refine XM_get (k := 28) (v := .ref (M.2.1 28)) C rfl fwMo_70 dMo_state_82 ?_
          refine XM_iload_n C dMo_state_85 rfl ?_
          obtain ⟨q10, hR⟩ := o_if hR
          refine XM_iald (k := 28) (n := 200) C rfl (xin_vp q10) dMo_state_86 ?_
          have hR := Option.some.inj hR
          subst hR
          exact XM_iret C hr dMo_state_87 rfl rfl rfl
        · rw [if_neg c9] at hR
          by_cases c11 : x2 = 5
          · rw [if_pos c11] at hR
            refine XM_tableIn (off := 60) (tgt := 88) C dMo_state_28 (by rw [c11]; decide) (by rw [c11]; decide) (by rw [c11]; rfl) (by decide) ?_
            refine XM_aload_n C dMo_state_88 rfl ?_
            refine XM_get (k := 29) (v := .ref (M.2.1 29)) C rfl fwMo_73 dMo_state_89 ?_
            refine XM_iload_n C dMo_state_92 rfl ?_
            obtain ⟨q12, hR⟩ := o_if hR
            refine XM_iald (k := 29) (n := 200) C rfl (xin_vp q12) dMo_state_93 ?_
            have hR := Option.some.inj hR
            subst hR
            exact XM_iret C hr dMo_state_94 rfl rfl rfl
          · rw [if_neg c11] at hR
            by_cases c13 : x2 = 6
            · rw [if_pos c13] at hR
              refine XM_tableIn (off := 67) (tgt := 95) C dMo_state_28 (by rw [c13]; decide) (by rw [c13]; decide) (by rw [c13]; rfl) (by decide) ?_
              refine XM_aload_n C dMo_state_95 rfl ?_
              refine XM_get (k := 30) (v := .ref (M.2.1 30)) C rfl fwMo_76 dMo_state_96 ?_
              refine XM_iload_n C dMo_state_99 rfl ?_
              obtain ⟨q14, hR⟩ := o_if hR
              refine XM_iald (k := 30) (n := 200) C rfl (xin_vp q14) dMo_state_100 ?_
              have hR := Option.some.inj hR
              subst hR
              exact XM_iret C hr dMo_state_101 rfl rfl rfl
            · rw [if_neg c13] at hR
              have ec5 := lv_neT (a := 3) c5 (by decide)
              have ec9 := lv_neT (a := 4) c9 (by decide)
              have ec11 := lv_neT (a := 5) c11 (by decide)
              have ec13 := lv_neT (a := 6) c13 (by decide)
              refine XM_tableOut (tgt := 102) C dMo_state_28 (by omega) (by decide) ?_
              refine XM_aload_n C dMo_state_102 rfl ?_
              refine XM_get (k := 24) (v := .ref (M.2.1 24)) C rfl fwMo_58 dMo_state_103 ?_
              refine XM_iconst (v := 3) C dMo_state_106 rfl ?_
              refine XM_iload_n C dMo_state_107 rfl ?_
              refine XM_imul C dMo_state_108 ?_
              refine XM_iload_n C dMo_state_109 rfl ?_
              refine XM_iadd C dMo_state_110 ?_
              obtain ⟨q15, hR⟩ := o_if hR
              refine XM_iald (k := 24) (n := 600) C rfl (xin_vp q15) dMo_state_111 ?_
              have hR := Option.some.inj hR
              subst hR
              exact XM_iret C hr dMo_state_112 rfl rfl rfl
    · rw [if_pos c4] at hR
      refine XM_iconst (v := (-1)) C dMo_state_25 rfl ?_
      have hR := Option.some.inj hR
      subst hR
      exact XM_iret C hr dMo_state_26 rfl rfl rfl
theorem Mo_state_c {l : Launch} {G : xG} {B : Nat} {M : xM} {n : Nat} {x1 x2 : Int32} {σ : mS} {τ : mL} {R : Int32 × mS × mL} (hR : Mo_state_f n x1 x2 σ τ = some R) : mCon l yMo_state cMo_state 3 (some .int) 1 25 G B M [.ref M.1, .int x1, .int x2] σ τ (some (.int R.1)) R.2.1 R.2.2 := mCon.of (by decide) (Nat.le_of_ble_eq_true rfl) (fun F e C hr => XM_sub (lv' := [(0, .ref (M.1)), (1, .int (x1)), (2, .int (x2))]) [0, 1, 2] rfl (Mo_state_x C hr hR))
def Mo_bound_f (n : Nat) (x1 : Int32) (x2 : Int32) (x3 : Int32) (σ : mS) (τ : mL) : Option (Int32 × mS × mL) := obd (Mo_isState_f n (x1) σ τ) (fun r1 => (if r1.1 = 0 then bnd (su r1.2.1 0 0 ((1 : Int32))) (fun s3 => some ((0 : Int32), s3, r1.2.2)) else (if Mo_isIn_f (Int32.toInt64 (x2)) ((0 : Int64)) ((3 : Int64)) = 0 then bnd (su r1.2.1 0 0 ((1 : Int32))) (fun s5 => some ((0 : Int32), s5, r1.2.2)) else (if Mo_isIn_f (Int32.toInt64 (x3)) ((0 : Int64)) ((3 : Int64)) = 0 then bnd (su r1.2.1 0 0 ((1 : Int32))) (fun s7 => some ((0 : Int32), s7, r1.2.2)) else bnd (su r1.2.1 0 0 ((0 : Int32))) (fun s8 => (if xin (((((25 : Int32)) * (x1)) + (((5 : Int32)) * (x2))) + (x3)) 5000 = true then some (s8 25 (Int32.toNatClampNeg (((((25 : Int32)) * (x1)) + (((5 : Int32)) * (x2))) + (x3))), s8, r1.2.2) else none))))))
set_option maxRecDepth 100000 in
set_option maxHeartbeats 8000000 in
theorem Mo_bound_x {F : xF} {G : xG} {B : Nat} {M : xM} (C : xC F G B cMo_bound RMo 5 1 25 0 0) (hr : (xFM F).sig.returnType = (some .int)) {n : Nat} {x1 x2 x3 : Int32} {σ : mS} {τ : mL} {R : Int32 × mS × mL} (hR : Mo_bound_f n x1 x2 x3 σ τ = some R) : XM F G B (xZ F G B (mP M (some (.int R.1)) R.2.1 R.2.2) 0 0) 5 M σ τ 0 [(0, .ref (M.1)), (1, .int (x1)), (2, .int (x2)), (3, .int (x3))] [] := by
  unfold Mo_bound_f at hR
  refine XM_aload_n C dMo_bound_0 rfl ?_
  refine XM_iload_n C dMo_bound_1 rfl ?_
  obtain ⟨r1, hr1, hR⟩ := o_bind hR
  refine XM_callVi (As := [.int (x1)]) (rest := []) C (Mo_isState_c hr1) wMo_275 ⟨by decide, by decide⟩ rfl rfl (Nat.le_of_ble_eq_true rfl) dMo_bound_2 ?_
  refine XM_if_eq (tgt := 36) C dMo_bound_5 (by decide) (fun c2 => ?_) (fun c2 => ?_)
  · rw [if_pos c2] at hR
    refine XM_iconst (v := 0) C dMo_bound_36 rfl ?_
    refine XM_istore (lv' := [(4, .int ((0 : Int32))), (0, .ref (M.1)), (1, .int (x1)), (2, .int (x2)), (3, .int (x3))]) C dMo_bound_37 (by decide) rfl ?_
    refine XM_aload_n C dMo_bound_39 rfl ?_
    refine XM_iload C dMo_bound_40 rfl ?_
    refine XM_if_eq (tgt := 49) C dMo_bound_42 (by decide) (fun _ => ?_) (fun c => absurd c (by decide))
    refine XM_iconst (v := 1) C dMo_bound_49 rfl ?_
    refine XM_put (k := 0) C rfl fwMo_124 rfl rfl rfl dMo_bound_50 ?_
    obtain ⟨s3, es3, hR⟩ := b_bnd hR
    rw [← es3]
    refine XM_iload C dMo_bound_53 rfl ?_
    refine XM_if_eq (tgt := 76) C dMo_bound_55 (by decide) (fun _ => ?_) (fun c => absurd c (by decide))
    refine XM_iconst (v := 0) C dMo_bound_76 rfl ?_
    have hR := Option.some.inj hR
    subst hR
    exact XM_iret C hr dMo_bound_77 rfl rfl rfl
  · rw [if_neg c2] at hR
    refine XM_iload_n C dMo_bound_8 rfl ?_
    refine XM_i2l C dMo_bound_9 ?_
    refine XM_lconst (v := 0) C dMo_bound_10 rfl ?_
    refine XM_ldc2 (v := 3) C kMo_139 dMo_bound_11 ?_
    refine XM_callSi (As := [.long (Int32.toInt64 (x2)), .long ((0 : Int64)), .long ((3 : Int64))]) (rest := []) C (Mo_isIn_c (Int32.toInt64 (x2)) ((0 : Int64)) ((3 : Int64))) wMo_141 ⟨by decide, by decide⟩ rfl rfl (Nat.le_of_ble_eq_true rfl) dMo_bound_14 ?_
    refine XM_if_eq (tgt := 36) C dMo_bound_17 (by decide) (fun c4 => ?_) (fun c4 => ?_)
    · rw [if_pos c4] at hR
      refine XM_iconst (v := 0) C dMo_bound_36 rfl ?_
      refine XM_istore (lv' := [(4, .int ((0 : Int32))), (0, .ref (M.1)), (1, .int (x1)), (2, .int (x2)), (3, .int (x3))]) C dMo_bound_37 (by decide) rfl ?_
      refine XM_aload_n C dMo_bound_39 rfl ?_
      refine XM_iload C dMo_bound_40 rfl ?_
      refine XM_if_eq (tgt := 49) C dMo_bound_42 (by decide) (fun _ => ?_) (fun c => absurd c (by decide))
      refine XM_iconst (v := 1) C dMo_bound_49 rfl ?_
      refine XM_put (k := 0) C rfl fwMo_124 rfl rfl rfl dMo_bound_50 ?_
      obtain ⟨s5, es5, hR⟩ := b_bnd hR
      rw [← es5]
      refine XM_iload C dMo_bound_53 rfl ?_
      refine XM_if_eq (tgt := 76) C dMo_bound_55 (by decide) (fun _ => ?_) (fun c => absurd c (by decide))
      refine XM_iconst (v := 0) C dMo_bound_76 rfl ?_
      have hR := Option.some.inj hR
      subst hR
      exact XM_iret C hr dMo_bound_77 rfl rfl rfl
    · rw [if_neg c4] at hR
      refine XM_iload_n C dMo_bound_20 rfl ?_
      refine XM_i2l C dMo_bound_21 ?_
      refine XM_lconst (v := 0) C dMo_bound_22 rfl ?_
      refine XM_ldc2 (v := 3) C kMo_139 dMo_bound_23 ?_
      refine XM_callSi (As := [.long (Int32.toInt64 (x3)), .long ((0 : Int64)), .long ((3 : Int64))]) (rest := []) C (Mo_isIn_c (Int32.toInt64 (x3)) ((0 : Int64)) ((3 : Int64))) wMo_141 ⟨by decide, by decide⟩ rfl rfl (Nat.le_of_ble_eq_true rfl) dMo_bound_26 ?_
      refine XM_if_eq (tgt := 36) C dMo_bound_29 (by decide) (fun c6 => ?_) (fun c6 => ?_)
      · rw [if_pos c6] at hR
        refine XM_iconst (v := 0) C dMo_bound_36 rfl ?_
        refine XM_istore (lv' := [(4, .int ((0 : Int32))), (0, .ref (M.1)), (1, .int (x1)), (2, .int (x2)), (3, .int (x3))]) C dMo_bound_37 (by decide) rfl ?_
        refine XM_aload_n C dMo_bound_39 rfl ?_
        refine XM_iload C dMo_bound_40 rfl ?_
        refine XM_if_eq (tgt := 49) C dMo_bound_42 (by decide) (fun _ => ?_) (fun c => absurd c (by decide))
        refine XM_iconst (v := 1) C dMo_bound_49 rfl ?_
        refine XM_put (k := 0) C rfl fwMo_124 rfl rfl rfl dMo_bound_50 ?_
        obtain ⟨s7, es7, hR⟩ := b_bnd hR
        rw [← es7]
        refine XM_iload C dMo_bound_53 rfl ?_
        refine XM_if_eq (tgt := 76) C dMo_bound_55 (by decide) (fun _ => ?_) (fun c => absurd c (by decide))
        refine XM_iconst (v := 0) C dMo_bound_76 rfl ?_
        have hR := Option.some.inj hR
        subst hR
        exact XM_iret C hr dMo_bound_77 rfl rfl rfl
      · rw [if_neg c6] at hR
        refine XM_iconst (v := 1) C dMo_bound_32 rfl ?_
        refine XM_goto (tgt := 37) C dMo_bound_33 (by decide) ?_
        refine XM_istore (lv' := [(4, .int ((1 : Int32))), (0, .ref (M.1)), (1, .int (x1)), (2, .int (x2)), (3, .int (x3))]) C dMo_bound_37 (by decide) rfl ?_
        refine XM_aload_n C dMo_bound_39 rfl ?_
        refine XM_iload C dMo_bound_40 rfl ?_
        refine XM_if_eq (tgt := 49) C dMo_bound_42 (by decide) (fun c => absurd c (by decide)) (fun _ => ?_)
        refine XM_iconst (v := 0) C dMo_bound_45 rfl ?_
        refine XM_goto (tgt := 50) C dMo_bound_46 (by decide) ?_
        refine XM_put (k := 0) C rfl fwMo_124 rfl rfl rfl dMo_bound_50 ?_
        obtain ⟨s8, es8, hR⟩ := b_bnd hR
        rw [← es8]
        refine XM_iload C dMo_bound_53 rfl ?_
        refine XM_if_eq (tgt := 76) C dMo_bound_55 (by decide) (fun c => absurd c (by decide)) (fun _ => ?_)
        refine XM_aload_n C dMo_bound_58 rfl ?_
        refine XM_get (k := 25) (v := .ref (M.2.1 25)) C rfl fwMo_61 dMo_bound_59 ?_
        refine XM_bipush (v := 25) C dMo_bound_62 (by decide) ?_
        refine XM_iload_n C dMo_bound_64 rfl ?_
        refine XM_imul C dMo_bound_65 ?_
        refine XM_iconst (v := 5) C dMo_bound_66 rfl ?_
        refine XM_iload_n C dMo_bound_67 rfl ?_
        refine XM_imul C dMo_bound_68 ?_
        refine XM_iadd C dMo_bound_69 ?_
        refine XM_iload_n C dMo_bound_70 rfl ?_
        refine XM_iadd C dMo_bound_71 ?_
        obtain ⟨q9, hR⟩ := o_if hR
        refine XM_iald (k := 25) (n := 5000) C rfl (xin_vp q9) dMo_bound_72 ?_
        refine XM_goto (tgt := 77) C dMo_bound_73 (by decide) ?_
        have hR := Option.some.inj hR
        subst hR
        exact XM_iret C hr dMo_bound_77 rfl rfl rfl
theorem Mo_bound_c {l : Launch} {G : xG} {B : Nat} {M : xM} {n : Nat} {x1 x2 x3 : Int32} {σ : mS} {τ : mL} {R : Int32 × mS × mL} (hR : Mo_bound_f n x1 x2 x3 σ τ = some R) : mCon l yMo_bound cMo_bound 5 (some .int) 1 25 G B M [.ref M.1, .int x1, .int x2, .int x3] σ τ (some (.int R.1)) R.2.1 R.2.2 := mCon.of (by decide) (Nat.le_of_ble_eq_true rfl) (fun F e C hr => XM_sub (lv' := [(0, .ref (M.1)), (1, .int (x1)), (2, .int (x2)), (3, .int (x3))]) [0, 1, 2, 3] rfl (Mo_bound_x C hr hR))
def Mo_seen_t0 (f : Nat → Int32 → Int32 → Int32 → Int32 → Int32 → mS → mL → Option (Int32 × mS × mL)) (n : Nat) (x1 : Int32) (x2 : Int32) (x3 : Int32) (x4 : Int32) (x5 : Int32) (σ : mS) (τ : mL) : Option (Int32 × mS × mL) := bnd (su σ 0 0 ((0 : Int32))) (fun s1 => (if Mo_isIn_f (Int32.toInt64 (x1)) (((-1) : Int64)) ((5 : Int64)) = 0 then some (((-1) : Int32), s1, τ) else (if Mo_isIn_f (Int32.toInt64 (x2)) (((-1) : Int64)) ((5 : Int64)) = 0 then some (((-1) : Int32), s1, τ) else (if Mo_isIn_f (Int32.toInt64 (x3)) (((-1) : Int64)) ((5 : Int64)) = 0 then some (((-1) : Int32), s1, τ) else f 52 (x1) (x2) (x3) ((0 : Int32)) 0 s1 τ))))
def Mo_seen_t52 (f : Nat → Int32 → Int32 → Int32 → Int32 → Int32 → mS → mL → Option (Int32 × mS × mL)) (n : Nat) (x1 : Int32) (x2 : Int32) (x3 : Int32) (x4 : Int32) (x5 : Int32) (σ : mS) (τ : mL) : Option (Int32 × mS × mL) := (if σ 22 0 ≤ x4 then some (((-2) : Int32), σ, τ) else (if x1 < 0 then (if x2 < 0 then (if x3 < 0 then some (x4, σ, τ) else (if xin ((((3 : Int32)) * (x4)) + ((2 : Int32))) 600 = true then (if σ 24 (Int32.toNatClampNeg ((((3 : Int32)) * (x4)) + ((2 : Int32)))) = x3 then some (x4, σ, τ) else f 52 (x1) (x2) (x3) (x4 + 1) 0 σ τ) else none)) else (if xin ((((3 : Int32)) * (x4)) + ((1 : Int32))) 600 = true then (if σ 24 (Int32.toNatClampNeg ((((3 : Int32)) * (x4)) + ((1 : Int32)))) = x2 then (if x3 < 0 then some (x4, σ, τ) else (if xin ((((3 : Int32)) * (x4)) + ((2 : Int32))) 600 = true then (if σ 24 (Int32.toNatClampNeg ((((3 : Int32)) * (x4)) + ((2 : Int32)))) = x3 then some (x4, σ, τ) else f 52 (x1) (x2) (x3) (x4 + 1) 0 σ τ) else none)) else f 52 (x1) (x2) (x3) (x4 + 1) 0 σ τ) else none)) else (if xin (((3 : Int32)) * (x4)) 600 = true then (if σ 24 (Int32.toNatClampNeg (((3 : Int32)) * (x4))) = x1 then (if x2 < 0 then (if x3 < 0 then some (x4, σ, τ) else (if xin ((((3 : Int32)) * (x4)) + ((2 : Int32))) 600 = true then (if σ 24 (Int32.toNatClampNeg ((((3 : Int32)) * (x4)) + ((2 : Int32)))) = x3 then some (x4, σ, τ) else f 52 (x1) (x2) (x3) (x4 + 1) 0 σ τ) else none)) else (if xin ((((3 : Int32)) * (x4)) + ((1 : Int32))) 600 = true then (if σ 24 (Int32.toNatClampNeg ((((3 : Int32)) * (x4)) + ((1 : Int32)))) = x2 then (if x3 < 0 then some (x4, σ, τ) else (if xin ((((3 : Int32)) * (x4)) + ((2 : Int32))) 600 = true then (if σ 24 (Int32.toNatClampNeg ((((3 : Int32)) * (x4)) + ((2 : Int32)))) = x3 then some (x4, σ, τ) else f 52 (x1) (x2) (x3) (x4 + 1) 0 σ τ) else none)) else f 52 (x1) (x2) (x3) (x4 + 1) 0 σ τ) else none)) else f 52 (x1) (x2) (x3) (x4 + 1) 0 σ τ) else none)))
def Mo_seen_f : Nat → Nat → Int32 → Int32 → Int32 → Int32 → Int32 → mS → mL → Option (Int32 × mS × mL)
  | 0 => fun _ _ _ _ _ _ _ _ => none
  | n + 1 => fun p x1 x2 x3 x4 x5 σ τ => if p = 0 then Mo_seen_t0 (Mo_seen_f n) n x1 x2 x3 x4 x5 σ τ else if p = 52 then Mo_seen_t52 (Mo_seen_f n) n x1 x2 x3 x4 x5 σ τ else none
theorem Mo_seen_e0 (n : Nat) (x1 : Int32) (x2 : Int32) (x3 : Int32) (x4 : Int32) (x5 : Int32) (σ : mS) (τ : mL) : Mo_seen_f (n + 1) 0 x1 x2 x3 x4 x5 σ τ = Mo_seen_t0 (Mo_seen_f n) n x1 x2 x3 x4 x5 σ τ := by
  show (if 0 = 0 then Mo_seen_t0 (Mo_seen_f n) n x1 x2 x3 x4 x5 σ τ else if 0 = 52 then Mo_seen_t52 (Mo_seen_f n) n x1 x2 x3 x4 x5 σ τ else none) = _
  rw [if_pos rfl]
theorem Mo_seen_e52 (n : Nat) (x1 : Int32) (x2 : Int32) (x3 : Int32) (x4 : Int32) (x5 : Int32) (σ : mS) (τ : mL) : Mo_seen_f (n + 1) 52 x1 x2 x3 x4 x5 σ τ = Mo_seen_t52 (Mo_seen_f n) n x1 x2 x3 x4 x5 σ τ := by
  show (if 52 = 0 then Mo_seen_t0 (Mo_seen_f n) n x1 x2 x3 x4 x5 σ τ else if 52 = 52 then Mo_seen_t52 (Mo_seen_f n) n x1 x2 x3 x4 x5 σ τ else none) = _
  rw [if_neg (by decide), if_pos rfl]
set_option maxRecDepth 100000 in
set_option maxHeartbeats 8000000 in
theorem Mo_seen_x {F : xF} {G : xG} {B : Nat} {M : xM} (C : xC F G B cMo_seen RMo 6 1 25 0 0) (hr : (xFM F).sig.returnType = (some .int)) : ∀ (n : Nat) (x1 : Int32) (x2 : Int32) (x3 : Int32) (x4 : Int32) (x5 : Int32) (σ : mS) (τ : mL) (R : Int32 × mS × mL), (Mo_seen_f n 0 x1 x2 x3 x4 x5 σ τ = some R → XM F G B (xZ F G B (mP M (some (.int R.1)) R.2.1 R.2.2) 0 0) 6 M σ τ 0 [(0, .ref (M.1)), (1, .int (x1)), (2, .int (x2)), (3, .int (x3))] []) ∧ (Mo_seen_f n 52 x1 x2 x3 x4 x5 σ τ = some R → XM F G B (xZ F G B (mP M (some (.int R.1)) R.2.1 R.2.2) 0 0) 6 M σ τ 52 [(0, .ref (M.1)), (1, .int (x1)), (2, .int (x2)), (3, .int (x3)), (4, .int (x4))] []) := by
  intro n
  induction n with
  | zero => exact fun _ _ _ _ _ _ _ _ => ⟨(fun hR => nomatch (show (none : Option _) = some _ from hR)), (fun hR => nomatch (show (none : Option _) = some _ from hR))⟩
  | succ n ih =>
    intro x1 x2 x3 x4 x5 σ τ R
    refine ⟨fun hR => ?_, fun hR => ?_⟩
    · rw [Mo_seen_e0] at hR
      unfold Mo_seen_t0 at hR
      refine XM_aload_n C dMo_seen_0 rfl ?_
      refine XM_iconst (v := 0) C dMo_seen_1 rfl ?_
      refine XM_put (k := 0) C rfl fwMo_124 rfl rfl rfl dMo_seen_2 ?_
      obtain ⟨s1, es1, hR⟩ := b_bnd hR
      rw [← es1]
      refine XM_iload_n C dMo_seen_5 rfl ?_
      refine XM_i2l C dMo_seen_6 ?_
      refine XM_ldc2 (v := (-1)) C kMo_280 dMo_seen_7 ?_
      refine XM_ldc2 (v := 5) C kMo_282 dMo_seen_10 ?_
      refine XM_callSi (As := [.long (Int32.toInt64 (x1)), .long (((-1) : Int64)), .long ((5 : Int64))]) (rest := []) C (Mo_isIn_c (Int32.toInt64 (x1)) (((-1) : Int64)) ((5 : Int64))) wMo_141 ⟨by decide, by decide⟩ rfl rfl (Nat.le_of_ble_eq_true rfl) dMo_seen_13 ?_
      refine XM_if_eq (tgt := 47) C dMo_seen_16 (by decide) (fun c2 => ?_) (fun c2 => ?_)
      · rw [if_pos c2] at hR
        refine XM_iconst (v := (-1)) C dMo_seen_47 rfl ?_
        have hR := Option.some.inj hR
        subst hR
        exact XM_iret C hr dMo_seen_48 rfl rfl rfl
      · rw [if_neg c2] at hR
        refine XM_iload_n C dMo_seen_19 rfl ?_
        refine XM_i2l C dMo_seen_20 ?_
        refine XM_ldc2 (v := (-1)) C kMo_280 dMo_seen_21 ?_
        refine XM_ldc2 (v := 5) C kMo_282 dMo_seen_24 ?_
        refine XM_callSi (As := [.long (Int32.toInt64 (x2)), .long (((-1) : Int64)), .long ((5 : Int64))]) (rest := []) C (Mo_isIn_c (Int32.toInt64 (x2)) (((-1) : Int64)) ((5 : Int64))) wMo_141 ⟨by decide, by decide⟩ rfl rfl (Nat.le_of_ble_eq_true rfl) dMo_seen_27 ?_
        refine XM_if_eq (tgt := 47) C dMo_seen_30 (by decide) (fun c3 => ?_) (fun c3 => ?_)
        · rw [if_pos c3] at hR
          refine XM_iconst (v := (-1)) C dMo_seen_47 rfl ?_
          have hR := Option.some.inj hR
          subst hR
          exact XM_iret C hr dMo_seen_48 rfl rfl rfl
        · rw [if_neg c3] at hR
          refine XM_iload_n C dMo_seen_33 rfl ?_
          refine XM_i2l C dMo_seen_34 ?_
          refine XM_ldc2 (v := (-1)) C kMo_280 dMo_seen_35 ?_
          refine XM_ldc2 (v := 5) C kMo_282 dMo_seen_38 ?_
          refine XM_callSi (As := [.long (Int32.toInt64 (x3)), .long (((-1) : Int64)), .long ((5 : Int64))]) (rest := []) C (Mo_isIn_c (Int32.toInt64 (x3)) (((-1) : Int64)) ((5 : Int64))) wMo_141 ⟨by decide, by decide⟩ rfl rfl (Nat.le_of_ble_eq_true rfl) dMo_seen_41 ?_
          refine XM_if_ne (tgt := 49) C dMo_seen_44 (by decide) (fun c4 => ?_) (fun c4 => ?_)
          · rw [if_neg c4] at hR
            refine XM_iconst (v := 0) C dMo_seen_49 rfl ?_
            refine XM_istore (lv' := [(4, .int ((0 : Int32))), (0, .ref (M.1)), (1, .int (x1)), (2, .int (x2)), (3, .int (x3))]) C dMo_seen_50 (by decide) rfl ?_
            refine XM_sub (lv' := [(0, .ref (M.1)), (1, .int (x1)), (2, .int (x2)), (3, .int (x3)), (4, .int ((0 : Int32)))]) [1, 2, 3, 4, 0] rfl ?_
            exact (ih (x1) (x2) (x3) ((0 : Int32)) 0 _ _ _).2 hR
          · rw [if_pos c4] at hR
            refine XM_iconst (v := (-1)) C dMo_seen_47 rfl ?_
            have hR := Option.some.inj hR
            subst hR
            exact XM_iret C hr dMo_seen_48 rfl rfl rfl
    · rw [Mo_seen_e52] at hR
      unfold Mo_seen_t52 at hR
      refine XM_iload C dMo_seen_52 rfl ?_
      refine XM_aload_n C dMo_seen_54 rfl ?_
      refine XM_get (k := 22) (v := .int (σ 22 0)) C rfl fwMo_199 dMo_seen_55 ?_
      refine XM_icmp_ge (tgt := 137) C dMo_seen_58 (by decide) (fun c5 => ?_) (fun c5 => ?_)
      · rw [if_pos c5] at hR
        refine XM_bipush (v := (-2)) C dMo_seen_137 (by decide) ?_
        have hR := Option.some.inj hR
        subst hR
        exact XM_iret C hr dMo_seen_139 rfl rfl rfl
      · rw [if_neg c5] at hR
        refine XM_iload_n C dMo_seen_61 rfl ?_
        refine XM_if_lt (tgt := 78) C dMo_seen_62 (by decide) (fun c6 => ?_) (fun c6 => ?_)
        · rw [if_pos c6] at hR
          refine XM_iload_n C dMo_seen_78 rfl ?_
          refine XM_if_lt (tgt := 97) C dMo_seen_79 (by decide) (fun c7 => ?_) (fun c7 => ?_)
          · rw [if_pos c7] at hR
            refine XM_iload_n C dMo_seen_97 rfl ?_
            refine XM_if_lt (tgt := 116) C dMo_seen_98 (by decide) (fun c8 => ?_) (fun c8 => ?_)
            · rw [if_pos c8] at hR
              refine XM_iconst (v := 1) C dMo_seen_116 rfl ?_
              refine XM_goto (tgt := 121) C dMo_seen_117 (by decide) ?_
              refine XM_istore (lv' := [(5, .int ((1 : Int32))), (0, .ref (M.1)), (1, .int (x1)), (2, .int (x2)), (3, .int (x3)), (4, .int (x4))]) C dMo_seen_121 (by decide) rfl ?_
              refine XM_iload C dMo_seen_123 rfl ?_
              refine XM_if_eq (tgt := 131) C dMo_seen_125 (by decide) (fun c => absurd c (by decide)) (fun _ => ?_)
              refine XM_iload C dMo_seen_128 rfl ?_
              have hR := Option.some.inj hR
              subst hR
              exact XM_iret C hr dMo_seen_130 rfl rfl rfl
            · rw [if_neg c8] at hR
              refine XM_aload_n C dMo_seen_101 rfl ?_
              refine XM_get (k := 24) (v := .ref (M.2.1 24)) C rfl fwMo_58 dMo_seen_102 ?_
              refine XM_iconst (v := 3) C dMo_seen_105 rfl ?_
              refine XM_iload C dMo_seen_106 rfl ?_
              refine XM_imul C dMo_seen_108 ?_
              refine XM_iconst (v := 2) C dMo_seen_109 rfl ?_
              refine XM_iadd C dMo_seen_110 ?_
              obtain ⟨q9, hR⟩ := o_if hR
              refine XM_iald (k := 24) (n := 600) C rfl (xin_vp q9) dMo_seen_111 ?_
              refine XM_iload_n C dMo_seen_112 rfl ?_
              refine XM_icmp_ne (tgt := 120) C dMo_seen_113 (by decide) (fun c10 => ?_) (fun c10 => ?_)
              · rw [if_neg c10] at hR
                refine XM_iconst (v := 0) C dMo_seen_120 rfl ?_
                refine XM_istore (lv' := [(5, .int ((0 : Int32))), (0, .ref (M.1)), (1, .int (x1)), (2, .int (x2)), (3, .int (x3)), (4, .int (x4))]) C dMo_seen_121 (by decide) rfl ?_
                refine XM_iload C dMo_seen_123 rfl ?_
                refine XM_if_eq (tgt := 131) C dMo_seen_125 (by decide) (fun _ => ?_) (fun c => absurd c (by decide))
                refine XM_iinc (v := x4 + 1) (lv' := [(4, .int (x4 + 1)), (5, .int ((0 : Int32))), (0, .ref (M.1)), (1, .int (x1)), (2, .int (x2)), (3, .int (x3))]) C dMo_seen_131 rfl rfl (by decide) rfl ?_
                refine XM_goto (tgt := 52) C dMo_seen_134 (by decide) ?_
                refine XM_sub (lv' := [(0, .ref (M.1)), (1, .int (x1)), (2, .int (x2)), (3, .int (x3)), (4, .int (x4 + 1))]) [2, 3, 4, 5, 0] rfl ?_
                exact (ih (x1) (x2) (x3) (x4 + 1) 0 _ _ _).2 hR
              · rw [if_pos c10] at hR
                refine XM_iconst (v := 1) C dMo_seen_116 rfl ?_
                refine XM_goto (tgt := 121) C dMo_seen_117 (by decide) ?_
                refine XM_istore (lv' := [(5, .int ((1 : Int32))), (0, .ref (M.1)), (1, .int (x1)), (2, .int (x2)), (3, .int (x3)), (4, .int (x4))]) C dMo_seen_121 (by decide) rfl ?_
                refine XM_iload C dMo_seen_123 rfl ?_
                refine XM_if_eq (tgt := 131) C dMo_seen_125 (by decide) (fun c => absurd c (by decide)) (fun _ => ?_)
                refine XM_iload C dMo_seen_128 rfl ?_
                have hR := Option.some.inj hR
                subst hR
                exact XM_iret C hr dMo_seen_130 rfl rfl rfl
          · rw [if_neg c7] at hR
            refine XM_aload_n C dMo_seen_82 rfl ?_
            refine XM_get (k := 24) (v := .ref (M.2.1 24)) C rfl fwMo_58 dMo_seen_83 ?_
            refine XM_iconst (v := 3) C dMo_seen_86 rfl ?_
            refine XM_iload C dMo_seen_87 rfl ?_
            refine XM_imul C dMo_seen_89 ?_
            refine XM_iconst (v := 1) C dMo_seen_90 rfl ?_
            refine XM_iadd C dMo_seen_91 ?_
            obtain ⟨q11, hR⟩ := o_if hR
            refine XM_iald (k := 24) (n := 600) C rfl (xin_vp q11) dMo_seen_92 ?_
            refine XM_iload_n C dMo_seen_93 rfl ?_
            refine XM_icmp_ne (tgt := 120) C dMo_seen_94 (by decide) (fun c12 => ?_) (fun c12 => ?_)
            · rw [if_neg c12] at hR
              refine XM_iconst (v := 0) C dMo_seen_120 rfl ?_
              refine XM_istore (lv' := [(5, .int ((0 : Int32))), (0, .ref (M.1)), (1, .int (x1)), (2, .int (x2)), (3, .int (x3)), (4, .int (x4))]) C dMo_seen_121 (by decide) rfl ?_
              refine XM_iload C dMo_seen_123 rfl ?_
              refine XM_if_eq (tgt := 131) C dMo_seen_125 (by decide) (fun _ => ?_) (fun c => absurd c (by decide))
              refine XM_iinc (v := x4 + 1) (lv' := [(4, .int (x4 + 1)), (5, .int ((0 : Int32))), (0, .ref (M.1)), (1, .int (x1)), (2, .int (x2)), (3, .int (x3))]) C dMo_seen_131 rfl rfl (by decide) rfl ?_
              refine XM_goto (tgt := 52) C dMo_seen_134 (by decide) ?_
              refine XM_sub (lv' := [(0, .ref (M.1)), (1, .int (x1)), (2, .int (x2)), (3, .int (x3)), (4, .int (x4 + 1))]) [2, 3, 4, 5, 0] rfl ?_
              exact (ih (x1) (x2) (x3) (x4 + 1) 0 _ _ _).2 hR
            · rw [if_pos c12] at hR
              refine XM_iload_n C dMo_seen_97 rfl ?_
              refine XM_if_lt (tgt := 116) C dMo_seen_98 (by decide) (fun c13 => ?_) (fun c13 => ?_)
              · rw [if_pos c13] at hR
                refine XM_iconst (v := 1) C dMo_seen_116 rfl ?_
                refine XM_goto (tgt := 121) C dMo_seen_117 (by decide) ?_
                refine XM_istore (lv' := [(5, .int ((1 : Int32))), (0, .ref (M.1)), (1, .int (x1)), (2, .int (x2)), (3, .int (x3)), (4, .int (x4))]) C dMo_seen_121 (by decide) rfl ?_
                refine XM_iload C dMo_seen_123 rfl ?_
                refine XM_if_eq (tgt := 131) C dMo_seen_125 (by decide) (fun c => absurd c (by decide)) (fun _ => ?_)
                refine XM_iload C dMo_seen_128 rfl ?_
                have hR := Option.some.inj hR
                subst hR
                exact XM_iret C hr dMo_seen_130 rfl rfl rfl
              · rw [if_neg c13] at hR
                refine XM_aload_n C dMo_seen_101 rfl ?_
                refine XM_get (k := 24) (v := .ref (M.2.1 24)) C rfl fwMo_58 dMo_seen_102 ?_
                refine XM_iconst (v := 3) C dMo_seen_105 rfl ?_
                refine XM_iload C dMo_seen_106 rfl ?_
                refine XM_imul C dMo_seen_108 ?_
                refine XM_iconst (v := 2) C dMo_seen_109 rfl ?_
                refine XM_iadd C dMo_seen_110 ?_
                obtain ⟨q14, hR⟩ := o_if hR
                refine XM_iald (k := 24) (n := 600) C rfl (xin_vp q14) dMo_seen_111 ?_
                refine XM_iload_n C dMo_seen_112 rfl ?_
                refine XM_icmp_ne (tgt := 120) C dMo_seen_113 (by decide) (fun c15 => ?_) (fun c15 => ?_)
                · rw [if_neg c15] at hR
                  refine XM_iconst (v := 0) C dMo_seen_120 rfl ?_
                  refine XM_istore (lv' := [(5, .int ((0 : Int32))), (0, .ref (M.1)), (1, .int (x1)), (2, .int (x2)), (3, .int (x3)), (4, .int (x4))]) C dMo_seen_121 (by decide) rfl ?_
                  refine XM_iload C dMo_seen_123 rfl ?_
                  refine XM_if_eq (tgt := 131) C dMo_seen_125 (by decide) (fun _ => ?_) (fun c => absurd c (by decide))
                  refine XM_iinc (v := x4 + 1) (lv' := [(4, .int (x4 + 1)), (5, .int ((0 : Int32))), (0, .ref (M.1)), (1, .int (x1)), (2, .int (x2)), (3, .int (x3))]) C dMo_seen_131 rfl rfl (by decide) rfl ?_
                  refine XM_goto (tgt := 52) C dMo_seen_134 (by decide) ?_
                  refine XM_sub (lv' := [(0, .ref (M.1)), (1, .int (x1)), (2, .int (x2)), (3, .int (x3)), (4, .int (x4 + 1))]) [2, 3, 4, 5, 0] rfl ?_
                  exact (ih (x1) (x2) (x3) (x4 + 1) 0 _ _ _).2 hR
                · rw [if_pos c15] at hR
                  refine XM_iconst (v := 1) C dMo_seen_116 rfl ?_
                  refine XM_goto (tgt := 121) C dMo_seen_117 (by decide) ?_
                  refine XM_istore (lv' := [(5, .int ((1 : Int32))), (0, .ref (M.1)), (1, .int (x1)), (2, .int (x2)), (3, .int (x3)), (4, .int (x4))]) C dMo_seen_121 (by decide) rfl ?_
                  refine XM_iload C dMo_seen_123 rfl ?_
                  refine XM_if_eq (tgt := 131) C dMo_seen_125 (by decide) (fun c => absurd c (by decide)) (fun _ => ?_)
                  refine XM_iload C dMo_seen_128 rfl ?_
                  have hR := Option.some.inj hR
                  subst hR
                  exact XM_iret C hr dMo_seen_130 rfl rfl rfl
        · rw [if_neg c6] at hR
          refine XM_aload_n C dMo_seen_65 rfl ?_
          refine XM_get (k := 24) (v := .ref (M.2.1 24)) C rfl fwMo_58 dMo_seen_66 ?_
          refine XM_iconst (v := 3) C dMo_seen_69 rfl ?_
          refine XM_iload C dMo_seen_70 rfl ?_
          refine XM_imul C dMo_seen_72 ?_
          obtain ⟨q16, hR⟩ := o_if hR
          refine XM_iald (k := 24) (n := 600) C rfl (xin_vp q16) dMo_seen_73 ?_
          refine XM_iload_n C dMo_seen_74 rfl ?_
          refine XM_icmp_ne (tgt := 120) C dMo_seen_75 (by decide) (fun c17 => ?_) (fun c17 => ?_)
          · rw [if_neg c17] at hR
            refine XM_iconst (v := 0) C dMo_seen_120 rfl ?_
            refine XM_istore (lv' := [(5, .int ((0 : Int32))), (0, .ref (M.1)), (1, .int (x1)), (2, .int (x2)), (3, .int (x3)), (4, .int (x4))]) C dMo_seen_121 (by decide) rfl ?_
            refine XM_iload C dMo_seen_123 rfl ?_
            refine XM_if_eq (tgt := 131) C dMo_seen_125 (by decide) (fun _ => ?_) (fun c => absurd c (by decide))
            refine XM_iinc (v := x4 + 1) (lv' := [(4, .int (x4 + 1)), (5, .int ((0 : Int32))), (0, .ref (M.1)), (1, .int (x1)), (2, .int (x2)), (3, .int (x3))]) C dMo_seen_131 rfl rfl (by decide) rfl ?_
            refine XM_goto (tgt := 52) C dMo_seen_134 (by decide) ?_
            refine XM_sub (lv' := [(0, .ref (M.1)), (1, .int (x1)), (2, .int (x2)), (3, .int (x3)), (4, .int (x4 + 1))]) [2, 3, 4, 5, 0] rfl ?_
            exact (ih (x1) (x2) (x3) (x4 + 1) 0 _ _ _).2 hR
          · rw [if_pos c17] at hR
            refine XM_iload_n C dMo_seen_78 rfl ?_
            refine XM_if_lt (tgt := 97) C dMo_seen_79 (by decide) (fun c18 => ?_) (fun c18 => ?_)
            · rw [if_pos c18] at hR
              refine XM_iload_n C dMo_seen_97 rfl ?_
              refine XM_if_lt (tgt := 116) C dMo_seen_98 (by decide) (fun c19 => ?_) (fun c19 => ?_)
              · rw [if_pos c19] at hR
                refine XM_iconst (v := 1) C dMo_seen_116 rfl ?_
                refine XM_goto (tgt := 121) C dMo_seen_117 (by decide) ?_
                refine XM_istore (lv' := [(5, .int ((1 : Int32))), (0, .ref (M.1)), (1, .int (x1)), (2, .int (x2)), (3, .int (x3)), (4, .int (x4))]) C dMo_seen_121 (by decide) rfl ?_
                refine XM_iload C dMo_seen_123 rfl ?_
                refine XM_if_eq (tgt := 131) C dMo_seen_125 (by decide) (fun c => absurd c (by decide)) (fun _ => ?_)
                refine XM_iload C dMo_seen_128 rfl ?_
                have hR := Option.some.inj hR
                subst hR
                exact XM_iret C hr dMo_seen_130 rfl rfl rfl
              · rw [if_neg c19] at hR
                refine XM_aload_n C dMo_seen_101 rfl ?_
                refine XM_get (k := 24) (v := .ref (M.2.1 24)) C rfl fwMo_58 dMo_seen_102 ?_
                refine XM_iconst (v := 3) C dMo_seen_105 rfl ?_
                refine XM_iload C dMo_seen_106 rfl ?_
                refine XM_imul C dMo_seen_108 ?_
                refine XM_iconst (v := 2) C dMo_seen_109 rfl ?_
                refine XM_iadd C dMo_seen_110 ?_
                obtain ⟨q20, hR⟩ := o_if hR
                refine XM_iald (k := 24) (n := 600) C rfl (xin_vp q20) dMo_seen_111 ?_
                refine XM_iload_n C dMo_seen_112 rfl ?_
                refine XM_icmp_ne (tgt := 120) C dMo_seen_113 (by decide) (fun c21 => ?_) (fun c21 => ?_)
                · rw [if_neg c21] at hR
                  refine XM_iconst (v := 0) C dMo_seen_120 rfl ?_
                  refine XM_istore (lv' := [(5, .int ((0 : Int32))), (0, .ref (M.1)), (1, .int (x1)), (2, .int (x2)), (3, .int (x3)), (4, .int (x4))]) C dMo_seen_121 (by decide) rfl ?_
                  refine XM_iload C dMo_seen_123 rfl ?_
                  refine XM_if_eq (tgt := 131) C dMo_seen_125 (by decide) (fun _ => ?_) (fun c => absurd c (by decide))
                  refine XM_iinc (v := x4 + 1) (lv' := [(4, .int (x4 + 1)), (5, .int ((0 : Int32))), (0, .ref (M.1)), (1, .int (x1)), (2, .int (x2)), (3, .int (x3))]) C dMo_seen_131 rfl rfl (by decide) rfl ?_
                  refine XM_goto (tgt := 52) C dMo_seen_134 (by decide) ?_
                  refine XM_sub (lv' := [(0, .ref (M.1)), (1, .int (x1)), (2, .int (x2)), (3, .int (x3)), (4, .int (x4 + 1))]) [2, 3, 4, 5, 0] rfl ?_
                  exact (ih (x1) (x2) (x3) (x4 + 1) 0 _ _ _).2 hR
                · rw [if_pos c21] at hR
                  refine XM_iconst (v := 1) C dMo_seen_116 rfl ?_
                  refine XM_goto (tgt := 121) C dMo_seen_117 (by decide) ?_
                  refine XM_istore (lv' := [(5, .int ((1 : Int32))), (0, .ref (M.1)), (1, .int (x1)), (2, .int (x2)), (3, .int (x3)), (4, .int (x4))]) C dMo_seen_121 (by decide) rfl ?_
                  refine XM_iload C dMo_seen_123 rfl ?_
                  refine XM_if_eq (tgt := 131) C dMo_seen_125 (by decide) (fun c => absurd c (by decide)) (fun _ => ?_)
                  refine XM_iload C dMo_seen_128 rfl ?_
                  have hR := Option.some.inj hR
                  subst hR
                  exact XM_iret C hr dMo_seen_130 rfl rfl rfl
            · rw [if_neg c18] at hR
              refine XM_aload_n C dMo_seen_82 rfl ?_
              refine XM_get (k := 24) (v := .ref (M.2.1 24)) C rfl fwMo_58 dMo_seen_83 ?_
              refine XM_iconst (v := 3) C dMo_seen_86 rfl ?_
              refine XM_iload C dMo_seen_87 rfl ?_
              refine XM_imul C dMo_seen_89 ?_
              refine XM_iconst (v := 1) C dMo_seen_90 rfl ?_
              refine XM_iadd C dMo_seen_91 ?_
              obtain ⟨q22, hR⟩ := o_if hR
              refine XM_iald (k := 24) (n := 600) C rfl (xin_vp q22) dMo_seen_92 ?_
              refine XM_iload_n C dMo_seen_93 rfl ?_
              refine XM_icmp_ne (tgt := 120) C dMo_seen_94 (by decide) (fun c23 => ?_) (fun c23 => ?_)
              · rw [if_neg c23] at hR
                refine XM_iconst (v := 0) C dMo_seen_120 rfl ?_
                refine XM_istore (lv' := [(5, .int ((0 : Int32))), (0, .ref (M.1)), (1, .int (x1)), (2, .int (x2)), (3, .int (x3)), (4, .int (x4))]) C dMo_seen_121 (by decide) rfl ?_
                refine XM_iload C dMo_seen_123 rfl ?_
                refine XM_if_eq (tgt := 131) C dMo_seen_125 (by decide) (fun _ => ?_) (fun c => absurd c (by decide))
                refine XM_iinc (v := x4 + 1) (lv' := [(4, .int (x4 + 1)), (5, .int ((0 : Int32))), (0, .ref (M.1)), (1, .int (x1)), (2, .int (x2)), (3, .int (x3))]) C dMo_seen_131 rfl rfl (by decide) rfl ?_
                refine XM_goto (tgt := 52) C dMo_seen_134 (by decide) ?_
                refine XM_sub (lv' := [(0, .ref (M.1)), (1, .int (x1)), (2, .int (x2)), (3, .int (x3)), (4, .int (x4 + 1))]) [2, 3, 4, 5, 0] rfl ?_
                exact (ih (x1) (x2) (x3) (x4 + 1) 0 _ _ _).2 hR
              · rw [if_pos c23] at hR
                refine XM_iload_n C dMo_seen_97 rfl ?_
                refine XM_if_lt (tgt := 116) C dMo_seen_98 (by decide) (fun c24 => ?_) (fun c24 => ?_)
                · rw [if_pos c24] at hR
                  refine XM_iconst (v := 1) C dMo_seen_116 rfl ?_
                  refine XM_goto (tgt := 121) C dMo_seen_117 (by decide) ?_
                  refine XM_istore (lv' := [(5, .int ((1 : Int32))), (0, .ref (M.1)), (1, .int (x1)), (2, .int (x2)), (3, .int (x3)), (4, .int (x4))]) C dMo_seen_121 (by decide) rfl ?_
                  refine XM_iload C dMo_seen_123 rfl ?_
                  refine XM_if_eq (tgt := 131) C dMo_seen_125 (by decide) (fun c => absurd c (by decide)) (fun _ => ?_)
                  refine XM_iload C dMo_seen_128 rfl ?_
                  have hR := Option.some.inj hR
                  subst hR
                  exact XM_iret C hr dMo_seen_130 rfl rfl rfl
                · rw [if_neg c24] at hR
                  refine XM_aload_n C dMo_seen_101 rfl ?_
                  refine XM_get (k := 24) (v := .ref (M.2.1 24)) C rfl fwMo_58 dMo_seen_102 ?_
                  refine XM_iconst (v := 3) C dMo_seen_105 rfl ?_
                  refine XM_iload C dMo_seen_106 rfl ?_
                  refine XM_imul C dMo_seen_108 ?_
                  refine XM_iconst (v := 2) C dMo_seen_109 rfl ?_
                  refine XM_iadd C dMo_seen_110 ?_
                  obtain ⟨q25, hR⟩ := o_if hR
                  refine XM_iald (k := 24) (n := 600) C rfl (xin_vp q25) dMo_seen_111 ?_
                  refine XM_iload_n C dMo_seen_112 rfl ?_
                  refine XM_icmp_ne (tgt := 120) C dMo_seen_113 (by decide) (fun c26 => ?_) (fun c26 => ?_)
                  · rw [if_neg c26] at hR
                    refine XM_iconst (v := 0) C dMo_seen_120 rfl ?_
                    refine XM_istore (lv' := [(5, .int ((0 : Int32))), (0, .ref (M.1)), (1, .int (x1)), (2, .int (x2)), (3, .int (x3)), (4, .int (x4))]) C dMo_seen_121 (by decide) rfl ?_
                    refine XM_iload C dMo_seen_123 rfl ?_
                    refine XM_if_eq (tgt := 131) C dMo_seen_125 (by decide) (fun _ => ?_) (fun c => absurd c (by decide))
                    refine XM_iinc (v := x4 + 1) (lv' := [(4, .int (x4 + 1)), (5, .int ((0 : Int32))), (0, .ref (M.1)), (1, .int (x1)), (2, .int (x2)), (3, .int (x3))]) C dMo_seen_131 rfl rfl (by decide) rfl ?_
                    refine XM_goto (tgt := 52) C dMo_seen_134 (by decide) ?_
                    refine XM_sub (lv' := [(0, .ref (M.1)), (1, .int (x1)), (2, .int (x2)), (3, .int (x3)), (4, .int (x4 + 1))]) [2, 3, 4, 5, 0] rfl ?_
                    exact (ih (x1) (x2) (x3) (x4 + 1) 0 _ _ _).2 hR
                  · rw [if_pos c26] at hR
                    refine XM_iconst (v := 1) C dMo_seen_116 rfl ?_
                    refine XM_goto (tgt := 121) C dMo_seen_117 (by decide) ?_
                    refine XM_istore (lv' := [(5, .int ((1 : Int32))), (0, .ref (M.1)), (1, .int (x1)), (2, .int (x2)), (3, .int (x3)), (4, .int (x4))]) C dMo_seen_121 (by decide) rfl ?_
                    refine XM_iload C dMo_seen_123 rfl ?_
                    refine XM_if_eq (tgt := 131) C dMo_seen_125 (by decide) (fun c => absurd c (by decide)) (fun _ => ?_)
                    refine XM_iload C dMo_seen_128 rfl ?_
                    have hR := Option.some.inj hR
                    subst hR
                    exact XM_iret C hr dMo_seen_130 rfl rfl rfl
theorem Mo_seen_c {l : Launch} {G : xG} {B : Nat} {M : xM} {n : Nat} {x1 x2 x3 : Int32} {σ : mS} {τ : mL} {R : Int32 × mS × mL} (hR : Mo_seen_f n 0 x1 x2 x3 0 0 σ τ = some R) : mCon l yMo_seen cMo_seen 6 (some .int) 1 25 G B M [.ref M.1, .int x1, .int x2, .int x3] σ τ (some (.int R.1)) R.2.1 R.2.2 := mCon.of (by decide) (Nat.le_of_ble_eq_true rfl) (fun F e C hr => XM_sub (lv' := [(0, .ref (M.1)), (1, .int (x1)), (2, .int (x2)), (3, .int (x3))]) [0, 1, 2, 3] rfl ((Mo_seen_x C hr n x1 x2 x3 0 0 σ τ R).1 hR))
def Mo_lead_t0 (f : Nat → Int32 → Int32 → Int32 → Int32 → mS → mL → Option (Int32 × mS × mL)) (n : Nat) (x1 : Int32) (x2 : Int32) (x3 : Int32) (x4 : Int32) (σ : mS) (τ : mL) : Option (Int32 × mS × mL) := bnd (su σ 0 0 ((0 : Int32))) (fun s1 => obd (Mo_isState_f n (x1) s1 τ) (fun r2 => (if r2.1 = 0 then some (((-1) : Int32), r2.2.1, r2.2.2) else (if x2 < 0 then some (((-1) : Int32), r2.2.1, r2.2.2) else (if xin (x1) 200 = true then (if r2.2.1 30 (Int32.toNatClampNeg (x1)) ≤ x2 then some (((-1) : Int32), r2.2.1, r2.2.2) else (if Mo_isIn_f (Int32.toInt64 (x3)) ((0 : Int64)) ((3 : Int64)) = 0 then some (((-1) : Int32), r2.2.1, r2.2.2) else f 44 (x1) (x2) (x3) (x1) r2.2.1 r2.2.2)) else none)))))
def Mo_lead_t44 (f : Nat → Int32 → Int32 → Int32 → Int32 → mS → mL → Option (Int32 × mS × mL)) (n : Nat) (x1 : Int32) (x2 : Int32) (x3 : Int32) (x4 : Int32) (σ : mS) (τ : mL) : Option (Int32 × mS × mL) := (if xin (x4) 200 = true then (if σ 30 (Int32.toNatClampNeg (x4)) ≤ (x2) + ((1 : Int32)) then (if xin ((((4 : Int32)) * (x4)) + (x3)) 800 = true then some (σ 31 (Int32.toNatClampNeg ((((4 : Int32)) * (x4)) + (x3))), σ, τ) else none) else (if xin (x4) 200 = true then f 44 (x1) (x2) (x3) (σ 27 (Int32.toNatClampNeg (x4))) σ τ else none)) else none)
def Mo_lead_f : Nat → Nat → Int32 → Int32 → Int32 → Int32 → mS → mL → Option (Int32 × mS × mL)
  | 0 => fun _ _ _ _ _ _ _ => none
  | n + 1 => fun p x1 x2 x3 x4 σ τ => if p = 0 then Mo_lead_t0 (Mo_lead_f n) n x1 x2 x3 x4 σ τ else if p = 44 then Mo_lead_t44 (Mo_lead_f n) n x1 x2 x3 x4 σ τ else none
theorem Mo_lead_e0 (n : Nat) (x1 : Int32) (x2 : Int32) (x3 : Int32) (x4 : Int32) (σ : mS) (τ : mL) : Mo_lead_f (n + 1) 0 x1 x2 x3 x4 σ τ = Mo_lead_t0 (Mo_lead_f n) n x1 x2 x3 x4 σ τ := by
  show (if 0 = 0 then Mo_lead_t0 (Mo_lead_f n) n x1 x2 x3 x4 σ τ else if 0 = 44 then Mo_lead_t44 (Mo_lead_f n) n x1 x2 x3 x4 σ τ else none) = _
  rw [if_pos rfl]
theorem Mo_lead_e44 (n : Nat) (x1 : Int32) (x2 : Int32) (x3 : Int32) (x4 : Int32) (σ : mS) (τ : mL) : Mo_lead_f (n + 1) 44 x1 x2 x3 x4 σ τ = Mo_lead_t44 (Mo_lead_f n) n x1 x2 x3 x4 σ τ := by
  show (if 44 = 0 then Mo_lead_t0 (Mo_lead_f n) n x1 x2 x3 x4 σ τ else if 44 = 44 then Mo_lead_t44 (Mo_lead_f n) n x1 x2 x3 x4 σ τ else none) = _
  rw [if_neg (by decide), if_pos rfl]
set_option maxRecDepth 100000 in
set_option maxHeartbeats 8000000 in
theorem Mo_lead_x {F : xF} {G : xG} {B : Nat} {M : xM} (C : xC F G B cMo_lead RMo 5 1 25 0 0) (hr : (xFM F).sig.returnType = (some .int)) : ∀ (n : Nat) (x1 : Int32) (x2 : Int32) (x3 : Int32) (x4 : Int32) (σ : mS) (τ : mL) (R : Int32 × mS × mL), (Mo_lead_f n 0 x1 x2 x3 x4 σ τ = some R → XM F G B (xZ F G B (mP M (some (.int R.1)) R.2.1 R.2.2) 0 0) 5 M σ τ 0 [(0, .ref (M.1)), (1, .int (x1)), (2, .int (x2)), (3, .int (x3))] []) ∧ (Mo_lead_f n 44 x1 x2 x3 x4 σ τ = some R → XM F G B (xZ F G B (mP M (some (.int R.1)) R.2.1 R.2.2) 0 0) 5 M σ τ 44 [(0, .ref (M.1)), (1, .int (x1)), (2, .int (x2)), (3, .int (x3)), (4, .int (x4))] []) := by
  intro n
  induction n with
  | zero => exact fun _ _ _ _ _ _ _ => ⟨(fun hR => nomatch (show (none : Option _) = some _ from hR)), (fun hR => nomatch (show (none : Option _) = some _ from hR))⟩
  | succ n ih =>
    intro x1 x2 x3 x4 σ τ R
    refine ⟨fun hR => ?_, fun hR => ?_⟩
    · rw [Mo_lead_e0] at hR
      unfold Mo_lead_t0 at hR
      refine XM_aload_n C dMo_lead_0 rfl ?_
      refine XM_iconst (v := 0) C dMo_lead_1 rfl ?_
      refine XM_put (k := 0) C rfl fwMo_124 rfl rfl rfl dMo_lead_2 ?_
      obtain ⟨s1, es1, hR⟩ := b_bnd hR
      rw [← es1]
      refine XM_aload_n C dMo_lead_5 rfl ?_
      refine XM_iload_n C dMo_lead_6 rfl ?_
      obtain ⟨r2, hr2, hR⟩ := o_bind hR
      refine XM_callVi (As := [.int (x1)]) (rest := []) C (Mo_isState_c hr2) wMo_275 ⟨by decide, by decide⟩ rfl rfl (Nat.le_of_ble_eq_true rfl) dMo_lead_7 ?_
      refine XM_if_eq (tgt := 39) C dMo_lead_10 (by decide) (fun c3 => ?_) (fun c3 => ?_)
      · rw [if_pos c3] at hR
        refine XM_iconst (v := (-1)) C dMo_lead_39 rfl ?_
        have hR := Option.some.inj hR
        subst hR
        exact XM_iret C hr dMo_lead_40 rfl rfl rfl
      · rw [if_neg c3] at hR
        refine XM_iload_n C dMo_lead_13 rfl ?_
        refine XM_if_lt (tgt := 39) C dMo_lead_14 (by decide) (fun c4 => ?_) (fun c4 => ?_)
        · rw [if_pos c4] at hR
          refine XM_iconst (v := (-1)) C dMo_lead_39 rfl ?_
          have hR := Option.some.inj hR
          subst hR
          exact XM_iret C hr dMo_lead_40 rfl rfl rfl
        · rw [if_neg c4] at hR
          refine XM_iload_n C dMo_lead_17 rfl ?_
          refine XM_aload_n C dMo_lead_18 rfl ?_
          refine XM_get (k := 30) (v := .ref (M.2.1 30)) C rfl fwMo_76 dMo_lead_19 ?_
          refine XM_iload_n C dMo_lead_22 rfl ?_
          obtain ⟨q5, hR⟩ := o_if hR
          refine XM_iald (k := 30) (n := 200) C rfl (xin_vp q5) dMo_lead_23 ?_
          refine XM_icmp_ge (tgt := 39) C dMo_lead_24 (by decide) (fun c6 => ?_) (fun c6 => ?_)
          · rw [if_pos c6] at hR
            refine XM_iconst (v := (-1)) C dMo_lead_39 rfl ?_
            have hR := Option.some.inj hR
            subst hR
            exact XM_iret C hr dMo_lead_40 rfl rfl rfl
          · rw [if_neg c6] at hR
            refine XM_iload_n C dMo_lead_27 rfl ?_
            refine XM_i2l C dMo_lead_28 ?_
            refine XM_lconst (v := 0) C dMo_lead_29 rfl ?_
            refine XM_ldc2 (v := 3) C kMo_139 dMo_lead_30 ?_
            refine XM_callSi (As := [.long (Int32.toInt64 (x3)), .long ((0 : Int64)), .long ((3 : Int64))]) (rest := []) C (Mo_isIn_c (Int32.toInt64 (x3)) ((0 : Int64)) ((3 : Int64))) wMo_141 ⟨by decide, by decide⟩ rfl rfl (Nat.le_of_ble_eq_true rfl) dMo_lead_33 ?_
            refine XM_if_ne (tgt := 41) C dMo_lead_36 (by decide) (fun c7 => ?_) (fun c7 => ?_)
            · rw [if_neg c7] at hR
              refine XM_iload_n C dMo_lead_41 rfl ?_
              refine XM_istore (lv' := [(4, .int (x1)), (0, .ref (M.1)), (1, .int (x1)), (2, .int (x2)), (3, .int (x3))]) C dMo_lead_42 (by decide) rfl ?_
              refine XM_sub (lv' := [(0, .ref (M.1)), (1, .int (x1)), (2, .int (x2)), (3, .int (x3)), (4, .int (x1))]) [1, 2, 3, 4, 0] rfl ?_
              exact (ih (x1) (x2) (x3) (x1) _ _ _).2 hR
            · rw [if_pos c7] at hR
              refine XM_iconst (v := (-1)) C dMo_lead_39 rfl ?_
              have hR := Option.some.inj hR
              subst hR
              exact XM_iret C hr dMo_lead_40 rfl rfl rfl
    · rw [Mo_lead_e44] at hR
      unfold Mo_lead_t44 at hR
      refine XM_aload_n C dMo_lead_44 rfl ?_
      refine XM_get (k := 30) (v := .ref (M.2.1 30)) C rfl fwMo_76 dMo_lead_45 ?_
      refine XM_iload C dMo_lead_48 rfl ?_
      obtain ⟨q8, hR⟩ := o_if hR
      refine XM_iald (k := 30) (n := 200) C rfl (xin_vp q8) dMo_lead_50 ?_
      refine XM_iload_n C dMo_lead_51 rfl ?_
      refine XM_iconst (v := 1) C dMo_lead_52 rfl ?_
      refine XM_iadd C dMo_lead_53 ?_
      refine XM_icmp_le (tgt := 69) C dMo_lead_54 (by decide) (fun c9 => ?_) (fun c9 => ?_)
      · rw [if_pos c9] at hR
        refine XM_aload_n C dMo_lead_69 rfl ?_
        refine XM_get (k := 31) (v := .ref (M.2.1 31)) C rfl fwMo_79 dMo_lead_70 ?_
        refine XM_iconst (v := 4) C dMo_lead_73 rfl ?_
        refine XM_iload C dMo_lead_74 rfl ?_
        refine XM_imul C dMo_lead_76 ?_
        refine XM_iload_n C dMo_lead_77 rfl ?_
        refine XM_iadd C dMo_lead_78 ?_
        obtain ⟨q10, hR⟩ := o_if hR
        refine XM_iald (k := 31) (n := 800) C rfl (xin_vp q10) dMo_lead_79 ?_
        have hR := Option.some.inj hR
        subst hR
        exact XM_iret C hr dMo_lead_80 rfl rfl rfl
      · rw [if_neg c9] at hR
        refine XM_aload_n C dMo_lead_57 rfl ?_
        refine XM_get (k := 27) (v := .ref (M.2.1 27)) C rfl fwMo_67 dMo_lead_58 ?_
        refine XM_iload C dMo_lead_61 rfl ?_
        obtain ⟨q11, hR⟩ := o_if hR
        refine XM_iald (k := 27) (n := 200) C rfl (xin_vp q11) dMo_lead_63 ?_
        refine XM_istore (lv' := [(4, .int (σ 27 (Int32.toNatClampNeg (x4)))), (0, .ref (M.1)), (1, .int (x1)), (2, .int (x2)), (3, .int (x3))]) C dMo_lead_64 (by decide) rfl ?_
        refine XM_goto (tgt := 44) C dMo_lead_66 (by decide) ?_
        refine XM_sub (lv' := [(0, .ref (M.1)), (1, .int (x1)), (2, .int (x2)), (3, .int (x3)), (4, .int (σ 27 (Int32.toNatClampNeg (x4))))]) [1, 2, 3, 4, 0] rfl ?_
        exact (ih (x1) (x2) (x3) (σ 27 (Int32.toNatClampNeg (x4))) _ _ _).2 hR
theorem Mo_lead_c {l : Launch} {G : xG} {B : Nat} {M : xM} {n : Nat} {x1 x2 x3 : Int32} {σ : mS} {τ : mL} {R : Int32 × mS × mL} (hR : Mo_lead_f n 0 x1 x2 x3 0 σ τ = some R) : mCon l yMo_lead cMo_lead 5 (some .int) 1 25 G B M [.ref M.1, .int x1, .int x2, .int x3] σ τ (some (.int R.1)) R.2.1 R.2.2 := mCon.of (by decide) (Nat.le_of_ble_eq_true rfl) (fun F e C hr => XM_sub (lv' := [(0, .ref (M.1)), (1, .int (x1)), (2, .int (x2)), (3, .int (x3))]) [0, 1, 2, 3] rfl ((Mo_lead_x C hr n x1 x2 x3 0 σ τ R).1 hR))
def Mo_soonest_f (n : Nat) (x1 : Int32) (σ : mS) (τ : mL) : Option (Int32 × mS × mL) := bnd (su σ 0 0 ((0 : Int32))) (fun s1 => obd (Mo_isState_f n (x1) s1 τ) (fun r2 => (if r2.1 = 0 then some (((-1) : Int32), r2.2.1, r2.2.2) else (if xin (x1) 200 = true then some (r2.2.1 32 (Int32.toNatClampNeg (x1)), r2.2.1, r2.2.2) else none))))
set_option maxRecDepth 100000 in
set_option maxHeartbeats 8000000 in
theorem Mo_soonest_x {F : xF} {G : xG} {B : Nat} {M : xM} (C : xC F G B cMo_soonest RMo 2 1 21 0 0) (hr : (xFM F).sig.returnType = (some .int)) {n : Nat} {x1 : Int32} {σ : mS} {τ : mL} {R : Int32 × mS × mL} (hR : Mo_soonest_f n x1 σ τ = some R) : XM F G B (xZ F G B (mP M (some (.int R.1)) R.2.1 R.2.2) 0 0) 2 M σ τ 0 [(0, .ref (M.1)), (1, .int (x1))] [] := by
  unfold Mo_soonest_f at hR
  refine XM_aload_n C dMo_soonest_0 rfl ?_
  refine XM_iconst (v := 0) C dMo_soonest_1 rfl ?_
  refine XM_put (k := 0) C rfl fwMo_124 rfl rfl rfl dMo_soonest_2 ?_
  obtain ⟨s1, es1, hR⟩ := b_bnd hR
  rw [← es1]
  refine XM_aload_n C dMo_soonest_5 rfl ?_
  refine XM_iload_n C dMo_soonest_6 rfl ?_
  obtain ⟨r2, hr2, hR⟩ := o_bind hR
  refine XM_callVi (As := [.int (x1)]) (rest := []) C (Mo_isState_c hr2) wMo_275 ⟨by decide, by decide⟩ rfl rfl (Nat.le_of_ble_eq_true rfl) dMo_soonest_7 ?_
  refine XM_if_eq (tgt := 22) C dMo_soonest_10 (by decide) (fun c3 => ?_) (fun c3 => ?_)
  · rw [if_pos c3] at hR
    refine XM_iconst (v := (-1)) C dMo_soonest_22 rfl ?_
    have hR := Option.some.inj hR
    subst hR
    exact XM_iret C hr dMo_soonest_23 rfl rfl rfl
  · rw [if_neg c3] at hR
    refine XM_aload_n C dMo_soonest_13 rfl ?_
    refine XM_get (k := 32) (v := .ref (M.2.1 32)) C rfl fwMo_82 dMo_soonest_14 ?_
    refine XM_iload_n C dMo_soonest_17 rfl ?_
    obtain ⟨q4, hR⟩ := o_if hR
    refine XM_iald (k := 32) (n := 200) C rfl (xin_vp q4) dMo_soonest_18 ?_
    refine XM_goto (tgt := 23) C dMo_soonest_19 (by decide) ?_
    have hR := Option.some.inj hR
    subst hR
    exact XM_iret C hr dMo_soonest_23 rfl rfl rfl
theorem Mo_soonest_c {l : Launch} {G : xG} {B : Nat} {M : xM} {n : Nat} {x1 : Int32} {σ : mS} {τ : mL} {R : Int32 × mS × mL} (hR : Mo_soonest_f n x1 σ τ = some R) : mCon l yMo_soonest cMo_soonest 2 (some .int) 1 21 G B M [.ref M.1, .int x1] σ τ (some (.int R.1)) R.2.1 R.2.2 := mCon.of (by decide) (Nat.le_of_ble_eq_true rfl) (fun F e C hr => XM_sub (lv' := [(0, .ref (M.1)), (1, .int (x1))]) [0, 1] rfl (Mo_soonest_x C hr hR))
def Mo_stuck_f (n : Nat) (x1 : Int32) (σ : mS) (τ : mL) : Option (Int32 × mS × mL) := bnd (su σ 0 0 ((0 : Int32))) (fun s1 => obd (Mo_isState_f n (x1) s1 τ) (fun r2 => (if r2.1 = 0 then some (((-1) : Int32), r2.2.1, r2.2.2) else (if xin (x1) 200 = true then (if 0 ≤ r2.2.1 29 (Int32.toNatClampNeg (x1)) then (if xin (x1) 200 = true then (if r2.2.1 29 (Int32.toNatClampNeg (x1)) ≤ 0 then (if xin (x1) 200 = true then (if r2.2.1 33 (Int32.toNatClampNeg (x1)) = 0 then some ((2 : Int32), r2.2.1, r2.2.2) else some ((1 : Int32), r2.2.1, r2.2.2)) else none) else some ((0 : Int32), r2.2.1, r2.2.2)) else none) else some (((-1) : Int32), r2.2.1, r2.2.2)) else none))))
set_option maxRecDepth 100000 in
set_option maxHeartbeats 8000000 in
theorem Mo_stuck_x {F : xF} {G : xG} {B : Nat} {M : xM} (C : xC F G B cMo_stuck RMo 2 1 21 0 0) (hr : (xFM F).sig.returnType = (some .int)) {n : Nat} {x1 : Int32} {σ : mS} {τ : mL} {R : Int32 × mS × mL} (hR : Mo_stuck_f n x1 σ τ = some R) : XM F G B (xZ F G B (mP M (some (.int R.1)) R.2.1 R.2.2) 0 0) 2 M σ τ 0 [(0, .ref (M.1)), (1, .int (x1))] [] := by
  unfold Mo_stuck_f at hR
  refine XM_aload_n C dMo_stuck_0 rfl ?_
  refine XM_iconst (v := 0) C dMo_stuck_1 rfl ?_
  refine XM_put (k := 0) C rfl fwMo_124 rfl rfl rfl dMo_stuck_2 ?_
  obtain ⟨s1, es1, hR⟩ := b_bnd hR
  rw [← es1]
  refine XM_aload_n C dMo_stuck_5 rfl ?_
  refine XM_iload_n C dMo_stuck_6 rfl ?_
  obtain ⟨r2, hr2, hR⟩ := o_bind hR
  refine XM_callVi (As := [.int (x1)]) (rest := []) C (Mo_isState_c hr2) wMo_275 ⟨by decide, by decide⟩ rfl rfl (Nat.le_of_ble_eq_true rfl) dMo_stuck_7 ?_
  refine XM_if_eq (tgt := 22) C dMo_stuck_10 (by decide) (fun c3 => ?_) (fun c3 => ?_)
  · rw [if_pos c3] at hR
    refine XM_iconst (v := (-1)) C dMo_stuck_22 rfl ?_
    have hR := Option.some.inj hR
    subst hR
    exact XM_iret C hr dMo_stuck_23 rfl rfl rfl
  · rw [if_neg c3] at hR
    refine XM_aload_n C dMo_stuck_13 rfl ?_
    refine XM_get (k := 29) (v := .ref (M.2.1 29)) C rfl fwMo_73 dMo_stuck_14 ?_
    refine XM_iload_n C dMo_stuck_17 rfl ?_
    obtain ⟨q4, hR⟩ := o_if hR
    refine XM_iald (k := 29) (n := 200) C rfl (xin_vp q4) dMo_stuck_18 ?_
    refine XM_if_ge (tgt := 24) C dMo_stuck_19 (by decide) (fun c5 => ?_) (fun c5 => ?_)
    · rw [if_pos c5] at hR
      refine XM_aload_n C dMo_stuck_24 rfl ?_
      refine XM_get (k := 29) (v := .ref (M.2.1 29)) C rfl fwMo_73 dMo_stuck_25 ?_
      refine XM_iload_n C dMo_stuck_28 rfl ?_
      obtain ⟨q6, hR⟩ := o_if hR
      refine XM_iald (k := 29) (n := 200) C rfl (xin_vp q6) dMo_stuck_29 ?_
      refine XM_if_le (tgt := 37) C dMo_stuck_30 (by decide) (fun c7 => ?_) (fun c7 => ?_)
      · rw [if_pos c7] at hR
        refine XM_aload_n C dMo_stuck_37 rfl ?_
        refine XM_get (k := 33) (v := .ref (M.2.1 33)) C rfl fwMo_85 dMo_stuck_38 ?_
        refine XM_iload_n C dMo_stuck_41 rfl ?_
        obtain ⟨q8, hR⟩ := o_if hR
        refine XM_zald (k := 33) (n := 200) C rfl (xin_vp q8) dMo_stuck_42 ?_
        refine XM_if_eq (tgt := 50) C dMo_stuck_43 (by decide) (fun c9 => ?_) (fun c9 => ?_)
        · rw [if_pos c9] at hR
          refine XM_iconst (v := 2) C dMo_stuck_50 rfl ?_
          have hR := Option.some.inj hR
          subst hR
          exact XM_iret C hr dMo_stuck_51 rfl rfl rfl
        · rw [if_neg c9] at hR
          refine XM_iconst (v := 1) C dMo_stuck_46 rfl ?_
          refine XM_goto (tgt := 51) C dMo_stuck_47 (by decide) ?_
          have hR := Option.some.inj hR
          subst hR
          exact XM_iret C hr dMo_stuck_51 rfl rfl rfl
      · rw [if_neg c7] at hR
        refine XM_iconst (v := 0) C dMo_stuck_33 rfl ?_
        refine XM_goto (tgt := 51) C dMo_stuck_34 (by decide) ?_
        have hR := Option.some.inj hR
        subst hR
        exact XM_iret C hr dMo_stuck_51 rfl rfl rfl
    · rw [if_neg c5] at hR
      refine XM_iconst (v := (-1)) C dMo_stuck_22 rfl ?_
      have hR := Option.some.inj hR
      subst hR
      exact XM_iret C hr dMo_stuck_23 rfl rfl rfl
theorem Mo_stuck_c {l : Launch} {G : xG} {B : Nat} {M : xM} {n : Nat} {x1 : Int32} {σ : mS} {τ : mL} {R : Int32 × mS × mL} (hR : Mo_stuck_f n x1 σ τ = some R) : mCon l yMo_stuck cMo_stuck 2 (some .int) 1 21 G B M [.ref M.1, .int x1] σ τ (some (.int R.1)) R.2.1 R.2.2 := mCon.of (by decide) (Nat.le_of_ble_eq_true rfl) (fun F e C hr => XM_sub (lv' := [(0, .ref (M.1)), (1, .int (x1))]) [0, 1] rfl (Mo_stuck_x C hr hR))
def Mo_take_t0 (f : Nat → Int32 → mS → mL → Option (Int32 × mS × mL)) (n : Nat) (x1 : Int32) (σ : mS) (τ : mL) : Option (Int32 × mS × mL) := bnd (su σ 16 0 ((4 : Int32))) (fun s1 => (if zb (s1 44 0) = true then bnd (su s1 17 0 (s1 44 0)) (fun s3 => f 15 ((0 : Int32)) s3 τ) else none))
def Mo_take_t15 (f : Nat → Int32 → mS → mL → Option (Int32 × mS × mL)) (n : Nat) (x1 : Int32) (σ : mS) (τ : mL) : Option (Int32 × mS × mL) := (if (25 : Int32) ≤ x1 then some (0, σ, τ) else (if xin (x1) 25 = true then (if xin (x1) 25 = true then bnd (su σ 15 (Int32.toNatClampNeg (x1)) (σ 43 (Int32.toNatClampNeg (x1)))) (fun s7 => f 15 (x1 + 1) s7 τ) else none) else none))
def Mo_take_f : Nat → Nat → Int32 → mS → mL → Option (Int32 × mS × mL)
  | 0 => fun _ _ _ _ => none
  | n + 1 => fun p x1 σ τ => if p = 0 then Mo_take_t0 (Mo_take_f n) n x1 σ τ else if p = 15 then Mo_take_t15 (Mo_take_f n) n x1 σ τ else none
theorem Mo_take_e0 (n : Nat) (x1 : Int32) (σ : mS) (τ : mL) : Mo_take_f (n + 1) 0 x1 σ τ = Mo_take_t0 (Mo_take_f n) n x1 σ τ := by
  show (if 0 = 0 then Mo_take_t0 (Mo_take_f n) n x1 σ τ else if 0 = 15 then Mo_take_t15 (Mo_take_f n) n x1 σ τ else none) = _
  rw [if_pos rfl]
theorem Mo_take_e15 (n : Nat) (x1 : Int32) (σ : mS) (τ : mL) : Mo_take_f (n + 1) 15 x1 σ τ = Mo_take_t15 (Mo_take_f n) n x1 σ τ := by
  show (if 15 = 0 then Mo_take_t0 (Mo_take_f n) n x1 σ τ else if 15 = 15 then Mo_take_t15 (Mo_take_f n) n x1 σ τ else none) = _
  rw [if_neg (by decide), if_pos rfl]
set_option maxRecDepth 100000 in
set_option maxHeartbeats 8000000 in
theorem Mo_take_x {F : xF} {G : xG} {B : Nat} {M : xM} (C : xC F G B cMo_take RMo 2 0 0 0 0) (hr : (xFM F).sig.returnType = none) : ∀ (n : Nat) (x1 : Int32) (σ : mS) (τ : mL) (R : Int32 × mS × mL), (Mo_take_f n 0 x1 σ τ = some R → XM F G B (xZ F G B (mP M none R.2.1 R.2.2) 0 0) 2 M σ τ 0 [(0, .ref (M.1))] []) ∧ (Mo_take_f n 15 x1 σ τ = some R → XM F G B (xZ F G B (mP M none R.2.1 R.2.2) 0 0) 2 M σ τ 15 [(0, .ref (M.1)), (1, .int (x1))] []) := by
  intro n
  induction n with
  | zero => exact fun _ _ _ _ => ⟨(fun hR => nomatch (show (none : Option _) = some _ from hR)), (fun hR => nomatch (show (none : Option _) = some _ from hR))⟩
  | succ n ih =>
    intro x1 σ τ R
    refine ⟨fun hR => ?_, fun hR => ?_⟩
    · rw [Mo_take_e0] at hR
      unfold Mo_take_t0 at hR
      refine XM_aload_n C dMo_take_0 rfl ?_
      refine XM_iconst (v := 4) C dMo_take_1 rfl ?_
      refine XM_put (k := 16) C rfl fwMo_164 rfl rfl rfl dMo_take_2 ?_
      obtain ⟨s1, es1, hR⟩ := b_bnd hR
      rw [← es1]
      refine XM_aload_n C dMo_take_5 rfl ?_
      refine XM_aload_n C dMo_take_6 rfl ?_
      refine XM_get (k := 44) (v := .int (s1 44 0)) C rfl fwMo_284 dMo_take_7 ?_
      obtain ⟨b2, hR⟩ := o_if hR
      refine XM_put (k := 17) C rfl fwMo_167 rfl (zb_n b2) (zb_f b2) dMo_take_10 ?_
      obtain ⟨s3, es3, hR⟩ := b_bnd hR
      rw [← es3]
      refine XM_iconst (v := 0) C dMo_take_13 rfl ?_
      refine XM_istore_n (lv' := [(1, .int ((0 : Int32))), (0, .ref (M.1))]) C dMo_take_14 (by decide) rfl ?_
      refine XM_sub (lv' := [(0, .ref (M.1)), (1, .int ((0 : Int32)))]) [1, 0] rfl ?_
      exact (ih ((0 : Int32)) _ _ _).2 hR
    · rw [Mo_take_e15] at hR
      unfold Mo_take_t15 at hR
      refine XM_iload_n C dMo_take_15 rfl ?_
      refine XM_bipush (v := 25) C dMo_take_16 (by decide) ?_
      refine XM_icmp_ge (tgt := 39) C dMo_take_18 (by decide) (fun c4 => ?_) (fun c4 => ?_)
      · rw [if_pos c4] at hR
        have hR := Option.some.inj hR
        subst hR
        exact XM_vret C hr dMo_take_39 rfl rfl rfl
      · rw [if_neg c4] at hR
        refine XM_aload_n C dMo_take_21 rfl ?_
        refine XM_get (k := 15) (v := .ref (M.2.1 15)) C rfl fwMo_49 dMo_take_22 ?_
        refine XM_iload_n C dMo_take_25 rfl ?_
        refine XM_aload_n C dMo_take_26 rfl ?_
        refine XM_get (k := 43) (v := .ref (M.2.1 43)) C rfl fwMo_95 dMo_take_27 ?_
        refine XM_iload_n C dMo_take_30 rfl ?_
        obtain ⟨q5, hR⟩ := o_if hR
        refine XM_iald (k := 43) (n := 25) C rfl (xin_vp q5) dMo_take_31 ?_
        obtain ⟨q6, hR⟩ := o_if hR
        refine XM_iast (k := 15) (n := 25) C rfl (xin_vp q6) dMo_take_32 ?_
        obtain ⟨s7, es7, hR⟩ := b_bnd hR
        rw [← es7]
        refine XM_iinc (v := x1 + 1) (lv' := [(1, .int (x1 + 1)), (0, .ref (M.1))]) C dMo_take_33 rfl rfl (by decide) rfl ?_
        refine XM_goto (tgt := 15) C dMo_take_36 (by decide) ?_
        refine XM_sub (lv' := [(0, .ref (M.1)), (1, .int (x1 + 1))]) [1, 0] rfl ?_
        exact (ih (x1 + 1) _ _ _).2 hR
theorem Mo_take_c {l : Launch} {G : xG} {B : Nat} {M : xM} {n : Nat} {σ : mS} {τ : mL} {R : Int32 × mS × mL} (hR : Mo_take_f n 0 0 σ τ = some R) : mCon l yMo_take cMo_take 2 none 0 0 G B M [.ref M.1] σ τ none R.2.1 R.2.2 := mCon.of (by decide) (Nat.le_of_ble_eq_true rfl) (fun F e C hr => XM_sub (lv' := [(0, .ref (M.1))]) [0] rfl ((Mo_take_x C hr n 0 σ τ R).1 hR))
def Mo_lay_t0 (f : Nat → Int32 → mS → mL → Option (Int32 × mS × mL)) (n : Nat) (x1 : Int32) (σ : mS) (τ : mL) : Option (Int32 × mS × mL) := (if zb (σ 17 0) = true then bnd (su σ 44 0 (σ 17 0)) (fun s2 => f 10 ((0 : Int32)) s2 τ) else none)
def Mo_lay_t10 (f : Nat → Int32 → mS → mL → Option (Int32 × mS × mL)) (n : Nat) (x1 : Int32) (σ : mS) (τ : mL) : Option (Int32 × mS × mL) := (if (25 : Int32) ≤ x1 then (if σ 17 0 = 0 then some ((0 : Int32), σ, τ) else some ((1 : Int32), σ, τ)) else (if xin (x1) 25 = true then (if xin (x1) 25 = true then bnd (su σ 43 (Int32.toNatClampNeg (x1)) (σ 15 (Int32.toNatClampNeg (x1)))) (fun s7 => f 10 (x1 + 1) s7 τ) else none) else none))
def Mo_lay_f : Nat → Nat → Int32 → mS → mL → Option (Int32 × mS × mL)
  | 0 => fun _ _ _ _ => none
  | n + 1 => fun p x1 σ τ => if p = 0 then Mo_lay_t0 (Mo_lay_f n) n x1 σ τ else if p = 10 then Mo_lay_t10 (Mo_lay_f n) n x1 σ τ else none
theorem Mo_lay_e0 (n : Nat) (x1 : Int32) (σ : mS) (τ : mL) : Mo_lay_f (n + 1) 0 x1 σ τ = Mo_lay_t0 (Mo_lay_f n) n x1 σ τ := by
  show (if 0 = 0 then Mo_lay_t0 (Mo_lay_f n) n x1 σ τ else if 0 = 10 then Mo_lay_t10 (Mo_lay_f n) n x1 σ τ else none) = _
  rw [if_pos rfl]
theorem Mo_lay_e10 (n : Nat) (x1 : Int32) (σ : mS) (τ : mL) : Mo_lay_f (n + 1) 10 x1 σ τ = Mo_lay_t10 (Mo_lay_f n) n x1 σ τ := by
  show (if 10 = 0 then Mo_lay_t0 (Mo_lay_f n) n x1 σ τ else if 10 = 10 then Mo_lay_t10 (Mo_lay_f n) n x1 σ τ else none) = _
  rw [if_neg (by decide), if_pos rfl]
set_option maxRecDepth 100000 in
set_option maxHeartbeats 8000000 in
theorem Mo_lay_x {F : xF} {G : xG} {B : Nat} {M : xM} (C : xC F G B cMo_lay RMo 2 0 0 0 0) (hr : (xFM F).sig.returnType = (some .int)) : ∀ (n : Nat) (x1 : Int32) (σ : mS) (τ : mL) (R : Int32 × mS × mL), (Mo_lay_f n 0 x1 σ τ = some R → XM F G B (xZ F G B (mP M (some (.int R.1)) R.2.1 R.2.2) 0 0) 2 M σ τ 0 [(0, .ref (M.1))] []) ∧ (Mo_lay_f n 10 x1 σ τ = some R → XM F G B (xZ F G B (mP M (some (.int R.1)) R.2.1 R.2.2) 0 0) 2 M σ τ 10 [(0, .ref (M.1)), (1, .int (x1))] []) := by
  intro n
  induction n with
  | zero => exact fun _ _ _ _ => ⟨(fun hR => nomatch (show (none : Option _) = some _ from hR)), (fun hR => nomatch (show (none : Option _) = some _ from hR))⟩
  | succ n ih =>
    intro x1 σ τ R
    refine ⟨fun hR => ?_, fun hR => ?_⟩
    · rw [Mo_lay_e0] at hR
      unfold Mo_lay_t0 at hR
      refine XM_aload_n C dMo_lay_0 rfl ?_
      refine XM_aload_n C dMo_lay_1 rfl ?_
      refine XM_get (k := 17) (v := .int (σ 17 0)) C rfl fwMo_167 dMo_lay_2 ?_
      obtain ⟨b1, hR⟩ := o_if hR
      refine XM_put (k := 44) C rfl fwMo_284 rfl (zb_n b1) (zb_f b1) dMo_lay_5 ?_
      obtain ⟨s2, es2, hR⟩ := b_bnd hR
      rw [← es2]
      refine XM_iconst (v := 0) C dMo_lay_8 rfl ?_
      refine XM_istore_n (lv' := [(1, .int ((0 : Int32))), (0, .ref (M.1))]) C dMo_lay_9 (by decide) rfl ?_
      refine XM_sub (lv' := [(0, .ref (M.1)), (1, .int ((0 : Int32)))]) [1, 0] rfl ?_
      exact (ih ((0 : Int32)) _ _ _).2 hR
    · rw [Mo_lay_e10] at hR
      unfold Mo_lay_t10 at hR
      refine XM_iload_n C dMo_lay_10 rfl ?_
      refine XM_bipush (v := 25) C dMo_lay_11 (by decide) ?_
      refine XM_icmp_ge (tgt := 34) C dMo_lay_13 (by decide) (fun c3 => ?_) (fun c3 => ?_)
      · rw [if_pos c3] at hR
        refine XM_aload_n C dMo_lay_34 rfl ?_
        refine XM_get (k := 17) (v := .int (σ 17 0)) C rfl fwMo_167 dMo_lay_35 ?_
        refine XM_if_eq (tgt := 45) C dMo_lay_38 (by decide) (fun c4 => ?_) (fun c4 => ?_)
        · rw [if_pos c4] at hR
          refine XM_iconst (v := 0) C dMo_lay_45 rfl ?_
          have hR := Option.some.inj hR
          subst hR
          exact XM_iret C hr dMo_lay_46 rfl rfl rfl
        · rw [if_neg c4] at hR
          refine XM_iconst (v := 1) C dMo_lay_41 rfl ?_
          refine XM_goto (tgt := 46) C dMo_lay_42 (by decide) ?_
          have hR := Option.some.inj hR
          subst hR
          exact XM_iret C hr dMo_lay_46 rfl rfl rfl
      · rw [if_neg c3] at hR
        refine XM_aload_n C dMo_lay_16 rfl ?_
        refine XM_get (k := 43) (v := .ref (M.2.1 43)) C rfl fwMo_95 dMo_lay_17 ?_
        refine XM_iload_n C dMo_lay_20 rfl ?_
        refine XM_aload_n C dMo_lay_21 rfl ?_
        refine XM_get (k := 15) (v := .ref (M.2.1 15)) C rfl fwMo_49 dMo_lay_22 ?_
        refine XM_iload_n C dMo_lay_25 rfl ?_
        obtain ⟨q5, hR⟩ := o_if hR
        refine XM_iald (k := 15) (n := 25) C rfl (xin_vp q5) dMo_lay_26 ?_
        obtain ⟨q6, hR⟩ := o_if hR
        refine XM_iast (k := 43) (n := 25) C rfl (xin_vp q6) dMo_lay_27 ?_
        obtain ⟨s7, es7, hR⟩ := b_bnd hR
        rw [← es7]
        refine XM_iinc (v := x1 + 1) (lv' := [(1, .int (x1 + 1)), (0, .ref (M.1))]) C dMo_lay_28 rfl rfl (by decide) rfl ?_
        refine XM_goto (tgt := 10) C dMo_lay_31 (by decide) ?_
        refine XM_sub (lv' := [(0, .ref (M.1)), (1, .int (x1 + 1))]) [1, 0] rfl ?_
        exact (ih (x1 + 1) _ _ _).2 hR
theorem Mo_lay_c {l : Launch} {G : xG} {B : Nat} {M : xM} {n : Nat} {σ : mS} {τ : mL} {R : Int32 × mS × mL} (hR : Mo_lay_f n 0 0 σ τ = some R) : mCon l yMo_lay cMo_lay 2 (some .int) 0 0 G B M [.ref M.1] σ τ (some (.int R.1)) R.2.1 R.2.2 := mCon.of (by decide) (Nat.le_of_ble_eq_true rfl) (fun F e C hr => XM_sub (lv' := [(0, .ref (M.1))]) [0] rfl ((Mo_lay_x C hr n 0 σ τ R).1 hR))
def Mo_hand_f (n : Nat) (x1 : Int32) (x2 : Int32) (σ : mS) (τ : mL) : Option (Int32 × mS × mL) := bnd (su σ 0 0 ((0 : Int32))) (fun s1 => (if Mo_isIn_f (Int32.toInt64 (x1)) ((0 : Int64)) ((3 : Int64)) = 0 then some (((-1) : Int32), s1, τ) else (if x1 = (2 : Int32) then obd (Mo_isState_f n (x2) s1 τ) (fun r16 => (if r16.1 = 0 then some (((-1) : Int32), r16.2.1, r16.2.2) else (if x1 = 0 then obd (Mo_allTimes_f n 0 ((4 : Int32)) 0 0 r16.2.1 r16.2.2) (fun r28 => obd (Mo_lay_f n 0 0 r28.2.1 r28.2.2) (fun r29 => some ((0 : Int32), r29.2.1, r29.2.2))) else (if x1 = (2 : Int32) then obd (Mo_showZone_f n 0 (x2) 0 r16.2.1 r16.2.2) (fun r26 => obd (Mo_lay_f n 0 0 r26.2.1 r26.2.2) (fun r27 => some ((0 : Int32), r27.2.1, r27.2.2))) else obd (Mo_allNull_f n 0 ((4 : Int32)) 0 r16.2.1 r16.2.2) (fun r20 => (if x1 = (3 : Int32) then bnd (su r20.2.1 17 0 ((1 : Int32))) (fun s24 => obd (Mo_lay_f n 0 0 s24 r20.2.2) (fun r25 => some ((0 : Int32), r25.2.1, r25.2.2))) else bnd (su r20.2.1 17 0 ((0 : Int32))) (fun s22 => obd (Mo_lay_f n 0 0 s22 r20.2.2) (fun r23 => some ((0 : Int32), r23.2.1, r23.2.2))))))))) else (if x1 = 0 then obd (Mo_allTimes_f n 0 ((4 : Int32)) 0 0 s1 τ) (fun r14 => obd (Mo_lay_f n 0 0 r14.2.1 r14.2.2) (fun r15 => some ((0 : Int32), r15.2.1, r15.2.2))) else (if x1 = (2 : Int32) then obd (Mo_showZone_f n 0 (x2) 0 s1 τ) (fun r12 => obd (Mo_lay_f n 0 0 r12.2.1 r12.2.2) (fun r13 => some ((0 : Int32), r13.2.1, r13.2.2))) else obd (Mo_allNull_f n 0 ((4 : Int32)) 0 s1 τ) (fun r6 => (if x1 = (3 : Int32) then bnd (su r6.2.1 17 0 ((1 : Int32))) (fun s10 => obd (Mo_lay_f n 0 0 s10 r6.2.2) (fun r11 => some ((0 : Int32), r11.2.1, r11.2.2))) else bnd (su r6.2.1 17 0 ((0 : Int32))) (fun s8 => obd (Mo_lay_f n 0 0 s8 r6.2.2) (fun r9 => some ((0 : Int32), r9.2.1, r9.2.2))))))))))
set_option maxRecDepth 100000 in
set_option maxHeartbeats 8000000 in
theorem Mo_hand_x {F : xF} {G : xG} {B : Nat} {M : xM} (C : xC F G B cMo_hand RMo 4 1 25 0 0) (hr : (xFM F).sig.returnType = (some .int)) {n : Nat} {x1 x2 : Int32} {σ : mS} {τ : mL} {R : Int32 × mS × mL} (hR : Mo_hand_f n x1 x2 σ τ = some R) : XM F G B (xZ F G B (mP M (some (.int R.1)) R.2.1 R.2.2) 0 0) 4 M σ τ 0 [(0, .ref (M.1)), (1, .int (x1)), (2, .int (x2))] [] := by
  unfold Mo_hand_f at hR
  refine XM_aload_n C dMo_hand_0 rfl ?_
  refine XM_iconst (v := 0) C dMo_hand_1 rfl ?_
  refine XM_put (k := 0) C rfl fwMo_124 rfl rfl rfl dMo_hand_2 ?_
  obtain ⟨s1, es1, hR⟩ := b_bnd hR
  rw [← es1]
  refine XM_iload_n C dMo_hand_5 rfl ?_
  refine XM_i2l C dMo_hand_6 ?_
  refine XM_lconst (v := 0) C dMo_hand_7 rfl ?_
  refine XM_ldc2 (v := 3) C kMo_139 dMo_hand_8 ?_
  refine XM_callSi (As := [.long (Int32.toInt64 (x1)), .long ((0 : Int64)), .long ((3 : Int64))]) (rest := []) C (Mo_isIn_c (Int32.toInt64 (x1)) ((0 : Int64)) ((3 : Int64))) wMo_141 ⟨by decide, by decide⟩ rfl rfl (Nat.le_of_ble_eq_true rfl) dMo_hand_11 ?_
  refine XM_if_eq (tgt := 30) C dMo_hand_14 (by decide) (fun c2 => ?_) (fun c2 => ?_)
  · rw [if_pos c2] at hR
    refine XM_iconst (v := (-1)) C dMo_hand_30 rfl ?_
    have hR := Option.some.inj hR
    subst hR
    exact XM_iret C hr dMo_hand_31 rfl rfl rfl
  · rw [if_neg c2] at hR
    refine XM_iload_n C dMo_hand_17 rfl ?_
    refine XM_iconst (v := 2) C dMo_hand_18 rfl ?_
    refine XM_icmp_ne (tgt := 32) C dMo_hand_19 (by decide) (fun c3 => ?_) (fun c3 => ?_)
    · rw [if_neg c3] at hR
      refine XM_iload_n C dMo_hand_32 rfl ?_
      refine XM_if_ne (tgt := 44) C dMo_hand_33 (by decide) (fun c4 => ?_) (fun c4 => ?_)
      · rw [if_neg c4] at hR
        refine XM_iload_n C dMo_hand_44 rfl ?_
        refine XM_iconst (v := 2) C dMo_hand_45 rfl ?_
        refine XM_icmp_ne (tgt := 57) C dMo_hand_46 (by decide) (fun c5 => ?_) (fun c5 => ?_)
        · rw [if_neg c5] at hR
          refine XM_aload_n C dMo_hand_57 rfl ?_
          refine XM_iconst (v := 4) C dMo_hand_58 rfl ?_
          obtain ⟨r6, hr6, hR⟩ := o_bind hR
          refine XM_callVv (As := [.int ((4 : Int32))]) (rest := []) C (Mo_allNull_c hr6) wMo_257 ⟨by decide, by decide⟩ rfl rfl (Nat.le_of_ble_eq_true rfl) dMo_hand_59 ?_
          refine XM_aload_n C dMo_hand_62 rfl ?_
          refine XM_iload_n C dMo_hand_63 rfl ?_
          refine XM_iconst (v := 3) C dMo_hand_64 rfl ?_
          refine XM_icmp_ne (tgt := 72) C dMo_hand_65 (by decide) (fun c7 => ?_) (fun c7 => ?_)
          · rw [if_neg c7] at hR
            refine XM_iconst (v := 0) C dMo_hand_72 rfl ?_
            refine XM_put (k := 17) C rfl fwMo_167 rfl rfl rfl dMo_hand_73 ?_
            obtain ⟨s8, es8, hR⟩ := b_bnd hR
            rw [← es8]
            refine XM_aload_n C dMo_hand_76 rfl ?_
            obtain ⟨r9, hr9, hR⟩ := o_bind hR
            refine XM_callVi (As := []) (rest := []) C (Mo_lay_c hr9) wMo_287 ⟨by decide, by decide⟩ rfl rfl (Nat.le_of_ble_eq_true rfl) dMo_hand_77 ?_
            refine XM_istore_n (lv' := [(3, .int (r9.1)), (0, .ref (M.1)), (1, .int (x1)), (2, .int (x2))]) C dMo_hand_80 (by decide) rfl ?_
            refine XM_iconst (v := 0) C dMo_hand_81 rfl ?_
            have hR := Option.some.inj hR
            subst hR
            exact XM_iret C hr dMo_hand_82 rfl rfl rfl
          · rw [if_pos c7] at hR
            refine XM_iconst (v := 1) C dMo_hand_68 rfl ?_
            refine XM_goto (tgt := 73) C dMo_hand_69 (by decide) ?_
            refine XM_put (k := 17) C rfl fwMo_167 rfl rfl rfl dMo_hand_73 ?_
            obtain ⟨s10, es10, hR⟩ := b_bnd hR
            rw [← es10]
            refine XM_aload_n C dMo_hand_76 rfl ?_
            obtain ⟨r11, hr11, hR⟩ := o_bind hR
            refine XM_callVi (As := []) (rest := []) C (Mo_lay_c hr11) wMo_287 ⟨by decide, by decide⟩ rfl rfl (Nat.le_of_ble_eq_true rfl) dMo_hand_77 ?_
            refine XM_istore_n (lv' := [(3, .int (r11.1)), (0, .ref (M.1)), (1, .int (x1)), (2, .int (x2))]) C dMo_hand_80 (by decide) rfl ?_
            refine XM_iconst (v := 0) C dMo_hand_81 rfl ?_
            have hR := Option.some.inj hR
            subst hR
            exact XM_iret C hr dMo_hand_82 rfl rfl rfl
        · rw [if_pos c5] at hR
          refine XM_aload_n C dMo_hand_49 rfl ?_
          refine XM_iload_n C dMo_hand_50 rfl ?_
          obtain ⟨r12, hr12, hR⟩ := o_bind hR
          refine XM_callVv (As := [.int (x2)]) (rest := []) C (Mo_showZone_c hr12) wMo_212 ⟨by decide, by decide⟩ rfl rfl (Nat.le_of_ble_eq_true rfl) dMo_hand_51 ?_
          refine XM_goto (tgt := 76) C dMo_hand_54 (by decide) ?_
          refine XM_aload_n C dMo_hand_76 rfl ?_
          obtain ⟨r13, hr13, hR⟩ := o_bind hR
          refine XM_callVi (As := []) (rest := []) C (Mo_lay_c hr13) wMo_287 ⟨by decide, by decide⟩ rfl rfl (Nat.le_of_ble_eq_true rfl) dMo_hand_77 ?_
          refine XM_istore_n (lv' := [(3, .int (r13.1)), (0, .ref (M.1)), (1, .int (x1)), (2, .int (x2))]) C dMo_hand_80 (by decide) rfl ?_
          refine XM_iconst (v := 0) C dMo_hand_81 rfl ?_
          have hR := Option.some.inj hR
          subst hR
          exact XM_iret C hr dMo_hand_82 rfl rfl rfl
      · rw [if_pos c4] at hR
        refine XM_aload_n C dMo_hand_36 rfl ?_
        refine XM_iconst (v := 4) C dMo_hand_37 rfl ?_
        obtain ⟨r14, hr14, hR⟩ := o_bind hR
        refine XM_callVv (As := [.int ((4 : Int32))]) (rest := []) C (Mo_allTimes_c hr14) wMo_120 ⟨by decide, by decide⟩ rfl rfl (Nat.le_of_ble_eq_true rfl) dMo_hand_38 ?_
        refine XM_goto (tgt := 76) C dMo_hand_41 (by decide) ?_
        refine XM_aload_n C dMo_hand_76 rfl ?_
        obtain ⟨r15, hr15, hR⟩ := o_bind hR
        refine XM_callVi (As := []) (rest := []) C (Mo_lay_c hr15) wMo_287 ⟨by decide, by decide⟩ rfl rfl (Nat.le_of_ble_eq_true rfl) dMo_hand_77 ?_
        refine XM_istore_n (lv' := [(3, .int (r15.1)), (0, .ref (M.1)), (1, .int (x1)), (2, .int (x2))]) C dMo_hand_80 (by decide) rfl ?_
        refine XM_iconst (v := 0) C dMo_hand_81 rfl ?_
        have hR := Option.some.inj hR
        subst hR
        exact XM_iret C hr dMo_hand_82 rfl rfl rfl
    · rw [if_pos c3] at hR
      refine XM_aload_n C dMo_hand_22 rfl ?_
      refine XM_iload_n C dMo_hand_23 rfl ?_
      obtain ⟨r16, hr16, hR⟩ := o_bind hR
      refine XM_callVi (As := [.int (x2)]) (rest := []) C (Mo_isState_c hr16) wMo_275 ⟨by decide, by decide⟩ rfl rfl (Nat.le_of_ble_eq_true rfl) dMo_hand_24 ?_
      refine XM_if_ne (tgt := 32) C dMo_hand_27 (by decide) (fun c17 => ?_) (fun c17 => ?_)
      · rw [if_neg c17] at hR
        refine XM_iload_n C dMo_hand_32 rfl ?_
        refine XM_if_ne (tgt := 44) C dMo_hand_33 (by decide) (fun c18 => ?_) (fun c18 => ?_)
        · rw [if_neg c18] at hR
          refine XM_iload_n C dMo_hand_44 rfl ?_
          refine XM_iconst (v := 2) C dMo_hand_45 rfl ?_
          refine XM_icmp_ne (tgt := 57) C dMo_hand_46 (by decide) (fun c19 => ?_) (fun c19 => ?_)
          · rw [if_neg c19] at hR
            refine XM_aload_n C dMo_hand_57 rfl ?_
            refine XM_iconst (v := 4) C dMo_hand_58 rfl ?_
            obtain ⟨r20, hr20, hR⟩ := o_bind hR
            refine XM_callVv (As := [.int ((4 : Int32))]) (rest := []) C (Mo_allNull_c hr20) wMo_257 ⟨by decide, by decide⟩ rfl rfl (Nat.le_of_ble_eq_true rfl) dMo_hand_59 ?_
            refine XM_aload_n C dMo_hand_62 rfl ?_
            refine XM_iload_n C dMo_hand_63 rfl ?_
            refine XM_iconst (v := 3) C dMo_hand_64 rfl ?_
            refine XM_icmp_ne (tgt := 72) C dMo_hand_65 (by decide) (fun c21 => ?_) (fun c21 => ?_)
            · rw [if_neg c21] at hR
              refine XM_iconst (v := 0) C dMo_hand_72 rfl ?_
              refine XM_put (k := 17) C rfl fwMo_167 rfl rfl rfl dMo_hand_73 ?_
              obtain ⟨s22, es22, hR⟩ := b_bnd hR
              rw [← es22]
              refine XM_aload_n C dMo_hand_76 rfl ?_
              obtain ⟨r23, hr23, hR⟩ := o_bind hR
              refine XM_callVi (As := []) (rest := []) C (Mo_lay_c hr23) wMo_287 ⟨by decide, by decide⟩ rfl rfl (Nat.le_of_ble_eq_true rfl) dMo_hand_77 ?_
              refine XM_istore_n (lv' := [(3, .int (r23.1)), (0, .ref (M.1)), (1, .int (x1)), (2, .int (x2))]) C dMo_hand_80 (by decide) rfl ?_
              refine XM_iconst (v := 0) C dMo_hand_81 rfl ?_
              have hR := Option.some.inj hR
              subst hR
              exact XM_iret C hr dMo_hand_82 rfl rfl rfl
            · rw [if_pos c21] at hR
              refine XM_iconst (v := 1) C dMo_hand_68 rfl ?_
              refine XM_goto (tgt := 73) C dMo_hand_69 (by decide) ?_
              refine XM_put (k := 17) C rfl fwMo_167 rfl rfl rfl dMo_hand_73 ?_
              obtain ⟨s24, es24, hR⟩ := b_bnd hR
              rw [← es24]
              refine XM_aload_n C dMo_hand_76 rfl ?_
              obtain ⟨r25, hr25, hR⟩ := o_bind hR
              refine XM_callVi (As := []) (rest := []) C (Mo_lay_c hr25) wMo_287 ⟨by decide, by decide⟩ rfl rfl (Nat.le_of_ble_eq_true rfl) dMo_hand_77 ?_
              refine XM_istore_n (lv' := [(3, .int (r25.1)), (0, .ref (M.1)), (1, .int (x1)), (2, .int (x2))]) C dMo_hand_80 (by decide) rfl ?_
              refine XM_iconst (v := 0) C dMo_hand_81 rfl ?_
              have hR := Option.some.inj hR
              subst hR
              exact XM_iret C hr dMo_hand_82 rfl rfl rfl
          · rw [if_pos c19] at hR
            refine XM_aload_n C dMo_hand_49 rfl ?_
            refine XM_iload_n C dMo_hand_50 rfl ?_
            obtain ⟨r26, hr26, hR⟩ := o_bind hR
            refine XM_callVv (As := [.int (x2)]) (rest := []) C (Mo_showZone_c hr26) wMo_212 ⟨by decide, by decide⟩ rfl rfl (Nat.le_of_ble_eq_true rfl) dMo_hand_51 ?_
            refine XM_goto (tgt := 76) C dMo_hand_54 (by decide) ?_
            refine XM_aload_n C dMo_hand_76 rfl ?_
            obtain ⟨r27, hr27, hR⟩ := o_bind hR
            refine XM_callVi (As := []) (rest := []) C (Mo_lay_c hr27) wMo_287 ⟨by decide, by decide⟩ rfl rfl (Nat.le_of_ble_eq_true rfl) dMo_hand_77 ?_
            refine XM_istore_n (lv' := [(3, .int (r27.1)), (0, .ref (M.1)), (1, .int (x1)), (2, .int (x2))]) C dMo_hand_80 (by decide) rfl ?_
            refine XM_iconst (v := 0) C dMo_hand_81 rfl ?_
            have hR := Option.some.inj hR
            subst hR
            exact XM_iret C hr dMo_hand_82 rfl rfl rfl
        · rw [if_pos c18] at hR
          refine XM_aload_n C dMo_hand_36 rfl ?_
          refine XM_iconst (v := 4) C dMo_hand_37 rfl ?_
          obtain ⟨r28, hr28, hR⟩ := o_bind hR
          refine XM_callVv (As := [.int ((4 : Int32))]) (rest := []) C (Mo_allTimes_c hr28) wMo_120 ⟨by decide, by decide⟩ rfl rfl (Nat.le_of_ble_eq_true rfl) dMo_hand_38 ?_
          refine XM_goto (tgt := 76) C dMo_hand_41 (by decide) ?_
          refine XM_aload_n C dMo_hand_76 rfl ?_
          obtain ⟨r29, hr29, hR⟩ := o_bind hR
          refine XM_callVi (As := []) (rest := []) C (Mo_lay_c hr29) wMo_287 ⟨by decide, by decide⟩ rfl rfl (Nat.le_of_ble_eq_true rfl) dMo_hand_77 ?_
          refine XM_istore_n (lv' := [(3, .int (r29.1)), (0, .ref (M.1)), (1, .int (x1)), (2, .int (x2))]) C dMo_hand_80 (by decide) rfl ?_
          refine XM_iconst (v := 0) C dMo_hand_81 rfl ?_
          have hR := Option.some.inj hR
          subst hR
          exact XM_iret C hr dMo_hand_82 rfl rfl rfl
      · rw [if_pos c17] at hR
        refine XM_iconst (v := (-1)) C dMo_hand_30 rfl ?_
        have hR := Option.some.inj hR
        subst hR
        exact XM_iret C hr dMo_hand_31 rfl rfl rfl
theorem Mo_hand_c {l : Launch} {G : xG} {B : Nat} {M : xM} {n : Nat} {x1 x2 : Int32} {σ : mS} {τ : mL} {R : Int32 × mS × mL} (hR : Mo_hand_f n x1 x2 σ τ = some R) : mCon l yMo_hand cMo_hand 4 (some .int) 1 25 G B M [.ref M.1, .int x1, .int x2] σ τ (some (.int R.1)) R.2.1 R.2.2 := mCon.of (by decide) (Nat.le_of_ble_eq_true rfl) (fun F e C hr => XM_sub (lv' := [(0, .ref (M.1)), (1, .int (x1)), (2, .int (x2))]) [0, 1, 2] rfl (Mo_hand_x C hr hR))
def Mo_tighten_f (n : Nat) (x1 : Int32) (x2 : Int32) (x3 : Int32) (x4 : Int32) (σ : mS) (τ : mL) : Option (Int32 × mS × mL) := bnd (su σ 0 0 ((0 : Int32))) (fun s1 => (if Mo_isIn_f (Int32.toInt64 (x1)) ((0 : Int64)) ((3 : Int64)) = 0 then some (((-1) : Int32), s1, τ) else (if Mo_isIn_f (Int32.toInt64 (x2)) ((0 : Int64)) ((3 : Int64)) = 0 then some (((-1) : Int32), s1, τ) else (if x1 = x2 then some (((-1) : Int32), s1, τ) else (if Mo_isIn_f (Int32.toInt64 (x3)) (((-400) : Int64)) ((400 : Int64)) = 0 then some (((-1) : Int32), s1, τ) else obd (Mo_take_f n 0 0 s1 τ) (fun r6 => obd (Mo_tightenBy_f n (x1) (x2) (Mo_boundOf_f (x3) (x4)) r6.2.1 r6.2.2) (fun r7 => obd (Mo_lay_f n 0 0 r7.2.1 r7.2.2) (fun r8 => some (r8.1, r8.2.1, r8.2.2)))))))))
set_option maxRecDepth 100000 in
set_option maxHeartbeats 8000000 in
theorem Mo_tighten_x {F : xF} {G : xG} {B : Nat} {M : xM} (C : xC F G B cMo_tighten RMo 5 4 90 0 0) (hr : (xFM F).sig.returnType = (some .int)) {n : Nat} {x1 x2 x3 x4 : Int32} {σ : mS} {τ : mL} {R : Int32 × mS × mL} (hR : Mo_tighten_f n x1 x2 x3 x4 σ τ = some R) : XM F G B (xZ F G B (mP M (some (.int R.1)) R.2.1 R.2.2) 0 0) 5 M σ τ 0 [(0, .ref (M.1)), (1, .int (x1)), (2, .int (x2)), (3, .int (x3)), (4, .int (x4))] [] := by
  unfold Mo_tighten_f at hR
  refine XM_aload_n C dMo_tighten_0 rfl ?_
  refine XM_iconst (v := 0) C dMo_tighten_1 rfl ?_
  refine XM_put (k := 0) C rfl fwMo_124 rfl rfl rfl dMo_tighten_2 ?_
  obtain ⟨s1, es1, hR⟩ := b_bnd hR
  rw [← es1]
  refine XM_iload_n C dMo_tighten_5 rfl ?_
  refine XM_i2l C dMo_tighten_6 ?_
  refine XM_lconst (v := 0) C dMo_tighten_7 rfl ?_
  refine XM_ldc2 (v := 3) C kMo_139 dMo_tighten_8 ?_
  refine XM_callSi (As := [.long (Int32.toInt64 (x1)), .long ((0 : Int64)), .long ((3 : Int64))]) (rest := []) C (Mo_isIn_c (Int32.toInt64 (x1)) ((0 : Int64)) ((3 : Int64))) wMo_141 ⟨by decide, by decide⟩ rfl rfl (Nat.le_of_ble_eq_true rfl) dMo_tighten_11 ?_
  refine XM_if_eq (tgt := 48) C dMo_tighten_14 (by decide) (fun c2 => ?_) (fun c2 => ?_)
  · rw [if_pos c2] at hR
    refine XM_iconst (v := (-1)) C dMo_tighten_48 rfl ?_
    have hR := Option.some.inj hR
    subst hR
    exact XM_iret C hr dMo_tighten_49 rfl rfl rfl
  · rw [if_neg c2] at hR
    refine XM_iload_n C dMo_tighten_17 rfl ?_
    refine XM_i2l C dMo_tighten_18 ?_
    refine XM_lconst (v := 0) C dMo_tighten_19 rfl ?_
    refine XM_ldc2 (v := 3) C kMo_139 dMo_tighten_20 ?_
    refine XM_callSi (As := [.long (Int32.toInt64 (x2)), .long ((0 : Int64)), .long ((3 : Int64))]) (rest := []) C (Mo_isIn_c (Int32.toInt64 (x2)) ((0 : Int64)) ((3 : Int64))) wMo_141 ⟨by decide, by decide⟩ rfl rfl (Nat.le_of_ble_eq_true rfl) dMo_tighten_23 ?_
    refine XM_if_eq (tgt := 48) C dMo_tighten_26 (by decide) (fun c3 => ?_) (fun c3 => ?_)
    · rw [if_pos c3] at hR
      refine XM_iconst (v := (-1)) C dMo_tighten_48 rfl ?_
      have hR := Option.some.inj hR
      subst hR
      exact XM_iret C hr dMo_tighten_49 rfl rfl rfl
    · rw [if_neg c3] at hR
      refine XM_iload_n C dMo_tighten_29 rfl ?_
      refine XM_iload_n C dMo_tighten_30 rfl ?_
      refine XM_icmp_eq (tgt := 48) C dMo_tighten_31 (by decide) (fun c4 => ?_) (fun c4 => ?_)
      · rw [if_pos c4] at hR
        refine XM_iconst (v := (-1)) C dMo_tighten_48 rfl ?_
        have hR := Option.some.inj hR
        subst hR
        exact XM_iret C hr dMo_tighten_49 rfl rfl rfl
      · rw [if_neg c4] at hR
        refine XM_iload_n C dMo_tighten_34 rfl ?_
        refine XM_i2l C dMo_tighten_35 ?_
        refine XM_ldc2 (v := (-400)) C kMo_291 dMo_tighten_36 ?_
        refine XM_ldc2 (v := 400) C kMo_293 dMo_tighten_39 ?_
        refine XM_callSi (As := [.long (Int32.toInt64 (x3)), .long (((-400) : Int64)), .long ((400 : Int64))]) (rest := []) C (Mo_isIn_c (Int32.toInt64 (x3)) (((-400) : Int64)) ((400 : Int64))) wMo_141 ⟨by decide, by decide⟩ rfl rfl (Nat.le_of_ble_eq_true rfl) dMo_tighten_42 ?_
        refine XM_if_ne (tgt := 50) C dMo_tighten_45 (by decide) (fun c5 => ?_) (fun c5 => ?_)
        · rw [if_neg c5] at hR
          refine XM_aload_n C dMo_tighten_50 rfl ?_
          obtain ⟨r6, hr6, hR⟩ := o_bind hR
          refine XM_callVv (As := []) (rest := []) C (Mo_take_c hr6) wMo_295 ⟨by decide, by decide⟩ rfl rfl (Nat.le_of_ble_eq_true rfl) dMo_tighten_51 ?_
          refine XM_aload_n C dMo_tighten_54 rfl ?_
          refine XM_iload_n C dMo_tighten_55 rfl ?_
          refine XM_iload_n C dMo_tighten_56 rfl ?_
          refine XM_iload_n C dMo_tighten_57 rfl ?_
          refine XM_iload C dMo_tighten_58 rfl ?_
          refine XM_callSi (As := [.int (x3), .int (x4)]) (rest := [.int (x2), .int (x1), .ref (M.1)]) C (Mo_boundOf_c (x3) (x4)) wMo_147 ⟨by decide, by decide⟩ rfl rfl (Nat.le_of_ble_eq_true rfl) dMo_tighten_60 ?_
          obtain ⟨r7, hr7, hR⟩ := o_bind hR
          refine XM_callVv (As := [.int (x1), .int (x2), .int (Mo_boundOf_f (x3) (x4))]) (rest := []) C (Mo_tightenBy_c hr7) wMo_179 ⟨by decide, by decide⟩ rfl rfl (Nat.le_of_ble_eq_true rfl) dMo_tighten_63 ?_
          refine XM_aload_n C dMo_tighten_66 rfl ?_
          obtain ⟨r8, hr8, hR⟩ := o_bind hR
          refine XM_callVi (As := []) (rest := []) C (Mo_lay_c hr8) wMo_287 ⟨by decide, by decide⟩ rfl rfl (Nat.le_of_ble_eq_true rfl) dMo_tighten_67 ?_
          have hR := Option.some.inj hR
          subst hR
          exact XM_iret C hr dMo_tighten_70 rfl rfl rfl
        · rw [if_pos c5] at hR
          refine XM_iconst (v := (-1)) C dMo_tighten_48 rfl ?_
          have hR := Option.some.inj hR
          subst hR
          exact XM_iret C hr dMo_tighten_49 rfl rfl rfl
theorem Mo_tighten_c {l : Launch} {G : xG} {B : Nat} {M : xM} {n : Nat} {x1 x2 x3 x4 : Int32} {σ : mS} {τ : mL} {R : Int32 × mS × mL} (hR : Mo_tighten_f n x1 x2 x3 x4 σ τ = some R) : mCon l yMo_tighten cMo_tighten 5 (some .int) 4 90 G B M [.ref M.1, .int x1, .int x2, .int x3, .int x4] σ τ (some (.int R.1)) R.2.1 R.2.2 := mCon.of (by decide) (Nat.le_of_ble_eq_true rfl) (fun F e C hr => XM_sub (lv' := [(0, .ref (M.1)), (1, .int (x1)), (2, .int (x2)), (3, .int (x3)), (4, .int (x4))]) [0, 1, 2, 3, 4] rfl (Mo_tighten_x C hr hR))
def Mo_pass_f (n : Nat)  (σ : mS) (τ : mL) : Option (Int32 × mS × mL) := bnd (su σ 0 0 ((0 : Int32))) (fun s1 => obd (Mo_take_f n 0 0 s1 τ) (fun r2 => obd (Mo_passOn_f n 0 0 r2.2.1 r2.2.2) (fun r3 => obd (Mo_lay_f n 0 0 r3.2.1 r3.2.2) (fun r4 => some (r4.1, r4.2.1, r4.2.2)))))
set_option maxRecDepth 100000 in
set_option maxHeartbeats 8000000 in
theorem Mo_pass_x {F : xF} {G : xG} {B : Nat} {M : xM} (C : xC F G B cMo_pass RMo 1 1 21 0 0) (hr : (xFM F).sig.returnType = (some .int)) {n : Nat} {σ : mS} {τ : mL} {R : Int32 × mS × mL} (hR : Mo_pass_f n σ τ = some R) : XM F G B (xZ F G B (mP M (some (.int R.1)) R.2.1 R.2.2) 0 0) 1 M σ τ 0 [(0, .ref (M.1))] [] := by
  unfold Mo_pass_f at hR
  refine XM_aload_n C dMo_pass_0 rfl ?_
  refine XM_iconst (v := 0) C dMo_pass_1 rfl ?_
  refine XM_put (k := 0) C rfl fwMo_124 rfl rfl rfl dMo_pass_2 ?_
  obtain ⟨s1, es1, hR⟩ := b_bnd hR
  rw [← es1]
  refine XM_aload_n C dMo_pass_5 rfl ?_
  obtain ⟨r2, hr2, hR⟩ := o_bind hR
  refine XM_callVv (As := []) (rest := []) C (Mo_take_c hr2) wMo_295 ⟨by decide, by decide⟩ rfl rfl (Nat.le_of_ble_eq_true rfl) dMo_pass_6 ?_
  refine XM_aload_n C dMo_pass_9 rfl ?_
  obtain ⟨r3, hr3, hR⟩ := o_bind hR
  refine XM_callVv (As := []) (rest := []) C (Mo_passOn_c hr3) wMo_189 ⟨by decide, by decide⟩ rfl rfl (Nat.le_of_ble_eq_true rfl) dMo_pass_10 ?_
  refine XM_aload_n C dMo_pass_13 rfl ?_
  obtain ⟨r4, hr4, hR⟩ := o_bind hR
  refine XM_callVi (As := []) (rest := []) C (Mo_lay_c hr4) wMo_287 ⟨by decide, by decide⟩ rfl rfl (Nat.le_of_ble_eq_true rfl) dMo_pass_14 ?_
  have hR := Option.some.inj hR
  subst hR
  exact XM_iret C hr dMo_pass_17 rfl rfl rfl
theorem Mo_pass_c {l : Launch} {G : xG} {B : Nat} {M : xM} {n : Nat} {σ : mS} {τ : mL} {R : Int32 × mS × mL} (hR : Mo_pass_f n  σ τ = some R) : mCon l yMo_pass cMo_pass 1 (some .int) 1 21 G B M [.ref M.1] σ τ (some (.int R.1)) R.2.1 R.2.2 := mCon.of (by decide) (Nat.le_of_ble_eq_true rfl) (fun F e C hr => XM_sub (lv' := [(0, .ref (M.1))]) [0] rfl (Mo_pass_x C hr hR))
def Mo_set_f (n : Nat) (x1 : Int32) (σ : mS) (τ : mL) : Option (Int32 × mS × mL) := bnd (su σ 0 0 ((0 : Int32))) (fun s1 => (if Mo_isIn_f (Int32.toInt64 (x1)) ((0 : Int64)) ((7 : Int64)) = 0 then some (((-1) : Int32), s1, τ) else obd (Mo_take_f n 0 0 s1 τ) (fun r3 => obd (Mo_setNull_f n 0 (x1) 0 0 0 r3.2.1 r3.2.2) (fun r4 => obd (Mo_lay_f n 0 0 r4.2.1 r4.2.2) (fun r5 => some (r5.1, r5.2.1, r5.2.2))))))
set_option maxRecDepth 100000 in
set_option maxHeartbeats 8000000 in
theorem Mo_set_x {F : xF} {G : xG} {B : Nat} {M : xM} (C : xC F G B cMo_set RMo 2 1 25 0 0) (hr : (xFM F).sig.returnType = (some .int)) {n : Nat} {x1 : Int32} {σ : mS} {τ : mL} {R : Int32 × mS × mL} (hR : Mo_set_f n x1 σ τ = some R) : XM F G B (xZ F G B (mP M (some (.int R.1)) R.2.1 R.2.2) 0 0) 2 M σ τ 0 [(0, .ref (M.1)), (1, .int (x1))] [] := by
  unfold Mo_set_f at hR
  refine XM_aload_n C dMo_set_0 rfl ?_
  refine XM_iconst (v := 0) C dMo_set_1 rfl ?_
  refine XM_put (k := 0) C rfl fwMo_124 rfl rfl rfl dMo_set_2 ?_
  obtain ⟨s1, es1, hR⟩ := b_bnd hR
  rw [← es1]
  refine XM_iload_n C dMo_set_5 rfl ?_
  refine XM_i2l C dMo_set_6 ?_
  refine XM_lconst (v := 0) C dMo_set_7 rfl ?_
  refine XM_ldc2 (v := 7) C kMo_155 dMo_set_8 ?_
  refine XM_callSi (As := [.long (Int32.toInt64 (x1)), .long ((0 : Int64)), .long ((7 : Int64))]) (rest := []) C (Mo_isIn_c (Int32.toInt64 (x1)) ((0 : Int64)) ((7 : Int64))) wMo_141 ⟨by decide, by decide⟩ rfl rfl (Nat.le_of_ble_eq_true rfl) dMo_set_11 ?_
  refine XM_if_ne (tgt := 19) C dMo_set_14 (by decide) (fun c2 => ?_) (fun c2 => ?_)
  · rw [if_neg c2] at hR
    refine XM_aload_n C dMo_set_19 rfl ?_
    obtain ⟨r3, hr3, hR⟩ := o_bind hR
    refine XM_callVv (As := []) (rest := []) C (Mo_take_c hr3) wMo_295 ⟨by decide, by decide⟩ rfl rfl (Nat.le_of_ble_eq_true rfl) dMo_set_20 ?_
    refine XM_aload_n C dMo_set_23 rfl ?_
    refine XM_iload_n C dMo_set_24 rfl ?_
    obtain ⟨r4, hr4, hR⟩ := o_bind hR
    refine XM_callVv (As := [.int (x1)]) (rest := []) C (Mo_setNull_c hr4) wMo_205 ⟨by decide, by decide⟩ rfl rfl (Nat.le_of_ble_eq_true rfl) dMo_set_25 ?_
    refine XM_aload_n C dMo_set_28 rfl ?_
    obtain ⟨r5, hr5, hR⟩ := o_bind hR
    refine XM_callVi (As := []) (rest := []) C (Mo_lay_c hr5) wMo_287 ⟨by decide, by decide⟩ rfl rfl (Nat.le_of_ble_eq_true rfl) dMo_set_29 ?_
    have hR := Option.some.inj hR
    subst hR
    exact XM_iret C hr dMo_set_32 rfl rfl rfl
  · rw [if_pos c2] at hR
    refine XM_iconst (v := (-1)) C dMo_set_17 rfl ?_
    have hR := Option.some.inj hR
    subst hR
    exact XM_iret C hr dMo_set_18 rfl rfl rfl
theorem Mo_set_c {l : Launch} {G : xG} {B : Nat} {M : xM} {n : Nat} {x1 : Int32} {σ : mS} {τ : mL} {R : Int32 × mS × mL} (hR : Mo_set_f n x1 σ τ = some R) : mCon l yMo_set cMo_set 2 (some .int) 1 25 G B M [.ref M.1, .int x1] σ τ (some (.int R.1)) R.2.1 R.2.2 := mCon.of (by decide) (Nat.le_of_ble_eq_true rfl) (fun F e C hr => XM_sub (lv' := [(0, .ref (M.1)), (1, .int (x1))]) [0, 1] rfl (Mo_set_x C hr hR))
def Mo_letGo_f (n : Nat) (x1 : Int32) (x2 : Int32) (x3 : Int32) (σ : mS) (τ : mL) : Option (Int32 × mS × mL) := bnd (su σ 0 0 ((0 : Int32))) (fun s1 => (if Mo_isIn_f (Int32.toInt64 (x1)) ((0 : Int64)) ((200 : Int64)) = 0 then some (((-1) : Int32), s1, τ) else (if Mo_isIn_f (Int32.toInt64 (x2)) ((0 : Int64)) ((200 : Int64)) = 0 then some (((-1) : Int32), s1, τ) else (if Mo_isIn_f (Int32.toInt64 (x3)) ((0 : Int64)) ((200 : Int64)) = 0 then some (((-1) : Int32), s1, τ) else (if xin ((0 : Int32)) 4 = true then bnd (su s1 19 (Int32.toNatClampNeg ((0 : Int32))) ((0 : Int32))) (fun s6 => (if xin ((1 : Int32)) 4 = true then bnd (su s6 19 (Int32.toNatClampNeg ((1 : Int32))) (x1)) (fun s8 => (if xin ((2 : Int32)) 4 = true then bnd (su s8 19 (Int32.toNatClampNeg ((2 : Int32))) (x2)) (fun s10 => (if xin ((3 : Int32)) 4 = true then bnd (su s10 19 (Int32.toNatClampNeg ((3 : Int32))) (x3)) (fun s12 => obd (Mo_take_f n 0 0 s12 τ) (fun r13 => obd (Mo_let_f n 0 0 0 0 0 r13.2.1 r13.2.2) (fun r14 => obd (Mo_lay_f n 0 0 r14.2.1 r14.2.2) (fun r15 => some (r15.1, r15.2.1, r15.2.2))))) else none)) else none)) else none)) else none)))))
set_option maxRecDepth 100000 in
set_option maxHeartbeats 8000000 in
theorem Mo_letGo_x {F : xF} {G : xG} {B : Nat} {M : xM} (C : xC F G B cMo_letGo RMo 4 4 91 0 0) (hr : (xFM F).sig.returnType = (some .int)) {n : Nat} {x1 x2 x3 : Int32} {σ : mS} {τ : mL} {R : Int32 × mS × mL} (hR : Mo_letGo_f n x1 x2 x3 σ τ = some R) : XM F G B (xZ F G B (mP M (some (.int R.1)) R.2.1 R.2.2) 0 0) 4 M σ τ 0 [(0, .ref (M.1)), (1, .int (x1)), (2, .int (x2)), (3, .int (x3))] [] := by
  unfold Mo_letGo_f at hR
  refine XM_aload_n C dMo_letGo_0 rfl ?_
  refine XM_iconst (v := 0) C dMo_letGo_1 rfl ?_
  refine XM_put (k := 0) C rfl fwMo_124 rfl rfl rfl dMo_letGo_2 ?_
  obtain ⟨s1, es1, hR⟩ := b_bnd hR
  rw [← es1]
  refine XM_iload_n C dMo_letGo_5 rfl ?_
  refine XM_i2l C dMo_letGo_6 ?_
  refine XM_lconst (v := 0) C dMo_letGo_7 rfl ?_
  refine XM_ldc2 (v := 200) C kMo_298 dMo_letGo_8 ?_
  refine XM_callSi (As := [.long (Int32.toInt64 (x1)), .long ((0 : Int64)), .long ((200 : Int64))]) (rest := []) C (Mo_isIn_c (Int32.toInt64 (x1)) ((0 : Int64)) ((200 : Int64))) wMo_141 ⟨by decide, by decide⟩ rfl rfl (Nat.le_of_ble_eq_true rfl) dMo_letGo_11 ?_
  refine XM_if_eq (tgt := 41) C dMo_letGo_14 (by decide) (fun c2 => ?_) (fun c2 => ?_)
  · rw [if_pos c2] at hR
    refine XM_iconst (v := (-1)) C dMo_letGo_41 rfl ?_
    have hR := Option.some.inj hR
    subst hR
    exact XM_iret C hr dMo_letGo_42 rfl rfl rfl
  · rw [if_neg c2] at hR
    refine XM_iload_n C dMo_letGo_17 rfl ?_
    refine XM_i2l C dMo_letGo_18 ?_
    refine XM_lconst (v := 0) C dMo_letGo_19 rfl ?_
    refine XM_ldc2 (v := 200) C kMo_298 dMo_letGo_20 ?_
    refine XM_callSi (As := [.long (Int32.toInt64 (x2)), .long ((0 : Int64)), .long ((200 : Int64))]) (rest := []) C (Mo_isIn_c (Int32.toInt64 (x2)) ((0 : Int64)) ((200 : Int64))) wMo_141 ⟨by decide, by decide⟩ rfl rfl (Nat.le_of_ble_eq_true rfl) dMo_letGo_23 ?_
    refine XM_if_eq (tgt := 41) C dMo_letGo_26 (by decide) (fun c3 => ?_) (fun c3 => ?_)
    · rw [if_pos c3] at hR
      refine XM_iconst (v := (-1)) C dMo_letGo_41 rfl ?_
      have hR := Option.some.inj hR
      subst hR
      exact XM_iret C hr dMo_letGo_42 rfl rfl rfl
    · rw [if_neg c3] at hR
      refine XM_iload_n C dMo_letGo_29 rfl ?_
      refine XM_i2l C dMo_letGo_30 ?_
      refine XM_lconst (v := 0) C dMo_letGo_31 rfl ?_
      refine XM_ldc2 (v := 200) C kMo_298 dMo_letGo_32 ?_
      refine XM_callSi (As := [.long (Int32.toInt64 (x3)), .long ((0 : Int64)), .long ((200 : Int64))]) (rest := []) C (Mo_isIn_c (Int32.toInt64 (x3)) ((0 : Int64)) ((200 : Int64))) wMo_141 ⟨by decide, by decide⟩ rfl rfl (Nat.le_of_ble_eq_true rfl) dMo_letGo_35 ?_
      refine XM_if_ne (tgt := 43) C dMo_letGo_38 (by decide) (fun c4 => ?_) (fun c4 => ?_)
      · rw [if_neg c4] at hR
        refine XM_aload_n C dMo_letGo_43 rfl ?_
        refine XM_get (k := 19) (v := .ref (M.2.1 19)) C rfl fwMo_55 dMo_letGo_44 ?_
        refine XM_iconst (v := 0) C dMo_letGo_47 rfl ?_
        refine XM_iconst (v := 0) C dMo_letGo_48 rfl ?_
        obtain ⟨q5, hR⟩ := o_if hR
        refine XM_iast (k := 19) (n := 4) C rfl (xin_vp q5) dMo_letGo_49 ?_
        obtain ⟨s6, es6, hR⟩ := b_bnd hR
        rw [← es6]
        refine XM_aload_n C dMo_letGo_50 rfl ?_
        refine XM_get (k := 19) (v := .ref (M.2.1 19)) C rfl fwMo_55 dMo_letGo_51 ?_
        refine XM_iconst (v := 1) C dMo_letGo_54 rfl ?_
        refine XM_iload_n C dMo_letGo_55 rfl ?_
        obtain ⟨q7, hR⟩ := o_if hR
        refine XM_iast (k := 19) (n := 4) C rfl (xin_vp q7) dMo_letGo_56 ?_
        obtain ⟨s8, es8, hR⟩ := b_bnd hR
        rw [← es8]
        refine XM_aload_n C dMo_letGo_57 rfl ?_
        refine XM_get (k := 19) (v := .ref (M.2.1 19)) C rfl fwMo_55 dMo_letGo_58 ?_
        refine XM_iconst (v := 2) C dMo_letGo_61 rfl ?_
        refine XM_iload_n C dMo_letGo_62 rfl ?_
        obtain ⟨q9, hR⟩ := o_if hR
        refine XM_iast (k := 19) (n := 4) C rfl (xin_vp q9) dMo_letGo_63 ?_
        obtain ⟨s10, es10, hR⟩ := b_bnd hR
        rw [← es10]
        refine XM_aload_n C dMo_letGo_64 rfl ?_
        refine XM_get (k := 19) (v := .ref (M.2.1 19)) C rfl fwMo_55 dMo_letGo_65 ?_
        refine XM_iconst (v := 3) C dMo_letGo_68 rfl ?_
        refine XM_iload_n C dMo_letGo_69 rfl ?_
        obtain ⟨q11, hR⟩ := o_if hR
        refine XM_iast (k := 19) (n := 4) C rfl (xin_vp q11) dMo_letGo_70 ?_
        obtain ⟨s12, es12, hR⟩ := b_bnd hR
        rw [← es12]
        refine XM_aload_n C dMo_letGo_71 rfl ?_
        obtain ⟨r13, hr13, hR⟩ := o_bind hR
        refine XM_callVv (As := []) (rest := []) C (Mo_take_c hr13) wMo_295 ⟨by decide, by decide⟩ rfl rfl (Nat.le_of_ble_eq_true rfl) dMo_letGo_72 ?_
        refine XM_aload_n C dMo_letGo_75 rfl ?_
        obtain ⟨r14, hr14, hR⟩ := o_bind hR
        refine XM_callVv (As := []) (rest := []) C (Mo_let_c hr14) wMo_219 ⟨by decide, by decide⟩ rfl rfl (Nat.le_of_ble_eq_true rfl) dMo_letGo_76 ?_
        refine XM_aload_n C dMo_letGo_79 rfl ?_
        obtain ⟨r15, hr15, hR⟩ := o_bind hR
        refine XM_callVi (As := []) (rest := []) C (Mo_lay_c hr15) wMo_287 ⟨by decide, by decide⟩ rfl rfl (Nat.le_of_ble_eq_true rfl) dMo_letGo_80 ?_
        have hR := Option.some.inj hR
        subst hR
        exact XM_iret C hr dMo_letGo_83 rfl rfl rfl
      · rw [if_pos c4] at hR
        refine XM_iconst (v := (-1)) C dMo_letGo_41 rfl ?_
        have hR := Option.some.inj hR
        subst hR
        exact XM_iret C hr dMo_letGo_42 rfl rfl rfl
theorem Mo_letGo_c {l : Launch} {G : xG} {B : Nat} {M : xM} {n : Nat} {x1 x2 x3 : Int32} {σ : mS} {τ : mL} {R : Int32 × mS × mL} (hR : Mo_letGo_f n x1 x2 x3 σ τ = some R) : mCon l yMo_letGo cMo_letGo 4 (some .int) 4 91 G B M [.ref M.1, .int x1, .int x2, .int x3] σ τ (some (.int R.1)) R.2.1 R.2.2 := mCon.of (by decide) (Nat.le_of_ble_eq_true rfl) (fun F e C hr => XM_sub (lv' := [(0, .ref (M.1)), (1, .int (x1)), (2, .int (x2)), (3, .int (x3))]) [0, 1, 2, 3] rfl (Mo_letGo_x C hr hR))
def Mo_meet_t0 (f : Nat → Int32 → Int32 → mS → mL → Option (Int32 × mS × mL)) (n : Nat) (x1 : Int32) (x2 : Int32) (σ : mS) (τ : mL) : Option (Int32 × mS × mL) := bnd (su σ 0 0 ((0 : Int32))) (fun s1 => obd (Mo_isState_f n (x1) s1 τ) (fun r2 => (if r2.1 = 0 then some (((-1) : Int32), r2.2.1, r2.2.2) else obd (Mo_take_f n 0 0 r2.2.1 r2.2.2) (fun r4 => f 21 (x1) ((0 : Int32)) r4.2.1 r4.2.2))))
def Mo_meet_t21 (f : Nat → Int32 → Int32 → mS → mL → Option (Int32 × mS × mL)) (n : Nat) (x1 : Int32) (x2 : Int32) (σ : mS) (τ : mL) : Option (Int32 × mS × mL) := (if (20 : Int32) ≤ x2 then obd (Mo_lay_f n 0 0 σ τ) (fun r6 => some (r6.1, r6.2.1, r6.2.2)) else (if (4 : Int32) ≤ (x2) - (x2) / ((5 : Int32)) * ((5 : Int32)) then f 21 (x1) (x2 + 1) σ τ else (if xin ((((25 : Int32)) * (x1)) + (x2)) 5000 = true then obd (Mo_tightenBy_f n ((x2) / ((5 : Int32))) ((x2) - (x2) / ((5 : Int32)) * ((5 : Int32))) (σ 25 (Int32.toNatClampNeg ((((25 : Int32)) * (x1)) + (x2)))) σ τ) (fun r9 => f 21 (x1) (x2 + 1) r9.2.1 r9.2.2) else none)))
def Mo_meet_f : Nat → Nat → Int32 → Int32 → mS → mL → Option (Int32 × mS × mL)
  | 0 => fun _ _ _ _ _ => none
  | n + 1 => fun p x1 x2 σ τ => if p = 0 then Mo_meet_t0 (Mo_meet_f n) n x1 x2 σ τ else if p = 21 then Mo_meet_t21 (Mo_meet_f n) n x1 x2 σ τ else none
theorem Mo_meet_e0 (n : Nat) (x1 : Int32) (x2 : Int32) (σ : mS) (τ : mL) : Mo_meet_f (n + 1) 0 x1 x2 σ τ = Mo_meet_t0 (Mo_meet_f n) n x1 x2 σ τ := by
  show (if 0 = 0 then Mo_meet_t0 (Mo_meet_f n) n x1 x2 σ τ else if 0 = 21 then Mo_meet_t21 (Mo_meet_f n) n x1 x2 σ τ else none) = _
  rw [if_pos rfl]
theorem Mo_meet_e21 (n : Nat) (x1 : Int32) (x2 : Int32) (σ : mS) (τ : mL) : Mo_meet_f (n + 1) 21 x1 x2 σ τ = Mo_meet_t21 (Mo_meet_f n) n x1 x2 σ τ := by
  show (if 21 = 0 then Mo_meet_t0 (Mo_meet_f n) n x1 x2 σ τ else if 21 = 21 then Mo_meet_t21 (Mo_meet_f n) n x1 x2 σ τ else none) = _
  rw [if_neg (by decide), if_pos rfl]
set_option maxRecDepth 100000 in
set_option maxHeartbeats 8000000 in
theorem Mo_meet_x {F : xF} {G : xG} {B : Nat} {M : xM} (C : xC F G B cMo_meet RMo 3 4 90 0 0) (hr : (xFM F).sig.returnType = (some .int)) : ∀ (n : Nat) (x1 : Int32) (x2 : Int32) (σ : mS) (τ : mL) (R : Int32 × mS × mL), (Mo_meet_f n 0 x1 x2 σ τ = some R → XM F G B (xZ F G B (mP M (some (.int R.1)) R.2.1 R.2.2) 0 0) 3 M σ τ 0 [(0, .ref (M.1)), (1, .int (x1))] []) ∧ (Mo_meet_f n 21 x1 x2 σ τ = some R → XM F G B (xZ F G B (mP M (some (.int R.1)) R.2.1 R.2.2) 0 0) 3 M σ τ 21 [(0, .ref (M.1)), (1, .int (x1)), (2, .int (x2))] []) := by
  intro n
  induction n with
  | zero => exact fun _ _ _ _ _ => ⟨(fun hR => nomatch (show (none : Option _) = some _ from hR)), (fun hR => nomatch (show (none : Option _) = some _ from hR))⟩
  | succ n ih =>
    intro x1 x2 σ τ R
    refine ⟨fun hR => ?_, fun hR => ?_⟩
    · rw [Mo_meet_e0] at hR
      unfold Mo_meet_t0 at hR
      refine XM_aload_n C dMo_meet_0 rfl ?_
      refine XM_iconst (v := 0) C dMo_meet_1 rfl ?_
      refine XM_put (k := 0) C rfl fwMo_124 rfl rfl rfl dMo_meet_2 ?_
      obtain ⟨s1, es1, hR⟩ := b_bnd hR
      rw [← es1]
      refine XM_aload_n C dMo_meet_5 rfl ?_
      refine XM_iload_n C dMo_meet_6 rfl ?_
      obtain ⟨r2, hr2, hR⟩ := o_bind hR
      refine XM_callVi (As := [.int (x1)]) (rest := []) C (Mo_isState_c hr2) wMo_275 ⟨by decide, by decide⟩ rfl rfl (Nat.le_of_ble_eq_true rfl) dMo_meet_7 ?_
      refine XM_if_ne (tgt := 15) C dMo_meet_10 (by decide) (fun c3 => ?_) (fun c3 => ?_)
      · rw [if_neg c3] at hR
        refine XM_aload_n C dMo_meet_15 rfl ?_
        obtain ⟨r4, hr4, hR⟩ := o_bind hR
        refine XM_callVv (As := []) (rest := []) C (Mo_take_c hr4) wMo_295 ⟨by decide, by decide⟩ rfl rfl (Nat.le_of_ble_eq_true rfl) dMo_meet_16 ?_
        refine XM_iconst (v := 0) C dMo_meet_19 rfl ?_
        refine XM_istore_n (lv' := [(2, .int ((0 : Int32))), (0, .ref (M.1)), (1, .int (x1))]) C dMo_meet_20 (by decide) rfl ?_
        refine XM_sub (lv' := [(0, .ref (M.1)), (1, .int (x1)), (2, .int ((0 : Int32)))]) [1, 2, 0] rfl ?_
        exact (ih (x1) ((0 : Int32)) _ _ _).2 hR
      · rw [if_pos c3] at hR
        refine XM_iconst (v := (-1)) C dMo_meet_13 rfl ?_
        have hR := Option.some.inj hR
        subst hR
        exact XM_iret C hr dMo_meet_14 rfl rfl rfl
    · rw [Mo_meet_e21] at hR
      unfold Mo_meet_t21 at hR
      refine XM_iload_n C dMo_meet_21 rfl ?_
      refine XM_bipush (v := 20) C dMo_meet_22 (by decide) ?_
      refine XM_icmp_ge (tgt := 61) C dMo_meet_24 (by decide) (fun c5 => ?_) (fun c5 => ?_)
      · rw [if_pos c5] at hR
        refine XM_aload_n C dMo_meet_61 rfl ?_
        obtain ⟨r6, hr6, hR⟩ := o_bind hR
        refine XM_callVi (As := []) (rest := []) C (Mo_lay_c hr6) wMo_287 ⟨by decide, by decide⟩ rfl rfl (Nat.le_of_ble_eq_true rfl) dMo_meet_62 ?_
        have hR := Option.some.inj hR
        subst hR
        exact XM_iret C hr dMo_meet_65 rfl rfl rfl
      · rw [if_neg c5] at hR
        refine XM_iload_n C dMo_meet_27 rfl ?_
        refine XM_iconst (v := 5) C dMo_meet_28 rfl ?_
        refine XM_irem C dMo_meet_29 (by decide) ?_
        refine XM_iconst (v := 4) C dMo_meet_30 rfl ?_
        refine XM_icmp_ge (tgt := 55) C dMo_meet_31 (by decide) (fun c7 => ?_) (fun c7 => ?_)
        · rw [if_pos c7] at hR
          refine XM_iinc (v := x2 + 1) (lv' := [(2, .int (x2 + 1)), (0, .ref (M.1)), (1, .int (x1))]) C dMo_meet_55 rfl rfl (by decide) rfl ?_
          refine XM_goto (tgt := 21) C dMo_meet_58 (by decide) ?_
          refine XM_sub (lv' := [(0, .ref (M.1)), (1, .int (x1)), (2, .int (x2 + 1))]) [1, 2, 0] rfl ?_
          exact (ih (x1) (x2 + 1) _ _ _).2 hR
        · rw [if_neg c7] at hR
          refine XM_aload_n C dMo_meet_34 rfl ?_
          refine XM_iload_n C dMo_meet_35 rfl ?_
          refine XM_iconst (v := 5) C dMo_meet_36 rfl ?_
          refine XM_idiv C dMo_meet_37 (by decide) ?_
          refine XM_iload_n C dMo_meet_38 rfl ?_
          refine XM_iconst (v := 5) C dMo_meet_39 rfl ?_
          refine XM_irem C dMo_meet_40 (by decide) ?_
          refine XM_aload_n C dMo_meet_41 rfl ?_
          refine XM_get (k := 25) (v := .ref (M.2.1 25)) C rfl fwMo_61 dMo_meet_42 ?_
          refine XM_bipush (v := 25) C dMo_meet_45 (by decide) ?_
          refine XM_iload_n C dMo_meet_47 rfl ?_
          refine XM_imul C dMo_meet_48 ?_
          refine XM_iload_n C dMo_meet_49 rfl ?_
          refine XM_iadd C dMo_meet_50 ?_
          obtain ⟨q8, hR⟩ := o_if hR
          refine XM_iald (k := 25) (n := 5000) C rfl (xin_vp q8) dMo_meet_51 ?_
          obtain ⟨r9, hr9, hR⟩ := o_bind hR
          refine XM_callVv (As := [.int ((x2) / ((5 : Int32))), .int ((x2) - (x2) / ((5 : Int32)) * ((5 : Int32))), .int (σ 25 (Int32.toNatClampNeg ((((25 : Int32)) * (x1)) + (x2))))]) (rest := []) C (Mo_tightenBy_c hr9) wMo_179 ⟨by decide, by decide⟩ rfl rfl (Nat.le_of_ble_eq_true rfl) dMo_meet_52 ?_
          refine XM_iinc (v := x2 + 1) (lv' := [(2, .int (x2 + 1)), (0, .ref (M.1)), (1, .int (x1))]) C dMo_meet_55 rfl rfl (by decide) rfl ?_
          refine XM_goto (tgt := 21) C dMo_meet_58 (by decide) ?_
          refine XM_sub (lv' := [(0, .ref (M.1)), (1, .int (x1)), (2, .int (x2 + 1))]) [1, 2, 0] rfl ?_
          exact (ih (x1) (x2 + 1) _ _ _).2 hR
theorem Mo_meet_c {l : Launch} {G : xG} {B : Nat} {M : xM} {n : Nat} {x1 : Int32} {σ : mS} {τ : mL} {R : Int32 × mS × mL} (hR : Mo_meet_f n 0 x1 0 σ τ = some R) : mCon l yMo_meet cMo_meet 3 (some .int) 4 90 G B M [.ref M.1, .int x1] σ τ (some (.int R.1)) R.2.1 R.2.2 := mCon.of (by decide) (Nat.le_of_ble_eq_true rfl) (fun F e C hr => XM_sub (lv' := [(0, .ref (M.1)), (1, .int (x1))]) [0, 1] rfl ((Mo_meet_x C hr n x1 0 σ τ R).1 hR))
def Mo_within_t0 (f : Nat → Int32 → Int32 → Int32 → Int32 → mS → mL → Option (Int32 × mS × mL)) (n : Nat) (x1 : Int32) (x2 : Int32) (x3 : Int32) (x4 : Int32) (σ : mS) (τ : mL) : Option (Int32 × mS × mL) := bnd (su σ 0 0 ((0 : Int32))) (fun s1 => obd (Mo_isState_f n (x1) s1 τ) (fun r2 => (if r2.1 = 0 then some (((-1) : Int32), r2.2.1, r2.2.2) else (if r2.2.1 44 0 = 0 then f 31 (x1) ((1 : Int32)) ((1 : Int32)) ((0 : Int32)) r2.2.1 r2.2.2 else some ((1 : Int32), r2.2.1, r2.2.2)))))
def Mo_within_t31 (f : Nat → Int32 → Int32 → Int32 → Int32 → mS → mL → Option (Int32 × mS × mL)) (n : Nat) (x1 : Int32) (x2 : Int32) (x3 : Int32) (x4 : Int32) (σ : mS) (τ : mL) : Option (Int32 × mS × mL) := (if (20 : Int32) ≤ x4 then (if x2 = 0 then (if x3 = 0 then some (((0 : Int32)) + ((0 : Int32)), σ, τ) else some (((0 : Int32)) + ((2 : Int32)), σ, τ)) else (if x3 = 0 then some (((1 : Int32)) + ((0 : Int32)), σ, τ) else some (((1 : Int32)) + ((2 : Int32)), σ, τ))) else (if x2 = 0 then (if x3 = 0 then f 31 (x1) ((0 : Int32)) ((0 : Int32)) (x4 + 1) σ τ else (if (x4) - (x4) / ((5 : Int32)) * ((5 : Int32)) = (4 : Int32) then f 31 (x1) ((0 : Int32)) ((1 : Int32)) (x4 + 1) σ τ else (if xin ((((25 : Int32)) * (x1)) + (x4)) 5000 = true then (if xin (x4) 25 = true then (if σ 43 (Int32.toNatClampNeg (x4)) < σ 25 (Int32.toNatClampNeg ((((25 : Int32)) * (x1)) + (x4))) then f 31 (x1) ((0 : Int32)) ((0 : Int32)) (x4 + 1) σ τ else f 31 (x1) ((0 : Int32)) ((1 : Int32)) (x4 + 1) σ τ) else none) else none))) else (if (x4) - (x4) / ((5 : Int32)) * ((5 : Int32)) = (4 : Int32) then (if x3 = 0 then f 31 (x1) ((1 : Int32)) ((0 : Int32)) (x4 + 1) σ τ else (if (x4) - (x4) / ((5 : Int32)) * ((5 : Int32)) = (4 : Int32) then f 31 (x1) ((1 : Int32)) ((1 : Int32)) (x4 + 1) σ τ else (if xin ((((25 : Int32)) * (x1)) + (x4)) 5000 = true then (if xin (x4) 25 = true then (if σ 43 (Int32.toNatClampNeg (x4)) < σ 25 (Int32.toNatClampNeg ((((25 : Int32)) * (x1)) + (x4))) then f 31 (x1) ((1 : Int32)) ((0 : Int32)) (x4 + 1) σ τ else f 31 (x1) ((1 : Int32)) ((1 : Int32)) (x4 + 1) σ τ) else none) else none))) else (if xin (x4) 25 = true then (if xin ((((25 : Int32)) * (x1)) + (x4)) 5000 = true then (if σ 25 (Int32.toNatClampNeg ((((25 : Int32)) * (x1)) + (x4))) < σ 43 (Int32.toNatClampNeg (x4)) then (if x3 = 0 then f 31 (x1) ((0 : Int32)) ((0 : Int32)) (x4 + 1) σ τ else (if (x4) - (x4) / ((5 : Int32)) * ((5 : Int32)) = (4 : Int32) then f 31 (x1) ((0 : Int32)) ((1 : Int32)) (x4 + 1) σ τ else (if xin ((((25 : Int32)) * (x1)) + (x4)) 5000 = true then (if xin (x4) 25 = true then (if σ 43 (Int32.toNatClampNeg (x4)) < σ 25 (Int32.toNatClampNeg ((((25 : Int32)) * (x1)) + (x4))) then f 31 (x1) ((0 : Int32)) ((0 : Int32)) (x4 + 1) σ τ else f 31 (x1) ((0 : Int32)) ((1 : Int32)) (x4 + 1) σ τ) else none) else none))) else (if x3 = 0 then f 31 (x1) ((1 : Int32)) ((0 : Int32)) (x4 + 1) σ τ else (if (x4) - (x4) / ((5 : Int32)) * ((5 : Int32)) = (4 : Int32) then f 31 (x1) ((1 : Int32)) ((1 : Int32)) (x4 + 1) σ τ else (if xin ((((25 : Int32)) * (x1)) + (x4)) 5000 = true then (if xin (x4) 25 = true then (if σ 43 (Int32.toNatClampNeg (x4)) < σ 25 (Int32.toNatClampNeg ((((25 : Int32)) * (x1)) + (x4))) then f 31 (x1) ((1 : Int32)) ((0 : Int32)) (x4 + 1) σ τ else f 31 (x1) ((1 : Int32)) ((1 : Int32)) (x4 + 1) σ τ) else none) else none)))) else none) else none))))
def Mo_within_f : Nat → Nat → Int32 → Int32 → Int32 → Int32 → mS → mL → Option (Int32 × mS × mL)
  | 0 => fun _ _ _ _ _ _ _ => none
  | n + 1 => fun p x1 x2 x3 x4 σ τ => if p = 0 then Mo_within_t0 (Mo_within_f n) n x1 x2 x3 x4 σ τ else if p = 31 then Mo_within_t31 (Mo_within_f n) n x1 x2 x3 x4 σ τ else none
theorem Mo_within_e0 (n : Nat) (x1 : Int32) (x2 : Int32) (x3 : Int32) (x4 : Int32) (σ : mS) (τ : mL) : Mo_within_f (n + 1) 0 x1 x2 x3 x4 σ τ = Mo_within_t0 (Mo_within_f n) n x1 x2 x3 x4 σ τ := by
  show (if 0 = 0 then Mo_within_t0 (Mo_within_f n) n x1 x2 x3 x4 σ τ else if 0 = 31 then Mo_within_t31 (Mo_within_f n) n x1 x2 x3 x4 σ τ else none) = _
  rw [if_pos rfl]
theorem Mo_within_e31 (n : Nat) (x1 : Int32) (x2 : Int32) (x3 : Int32) (x4 : Int32) (σ : mS) (τ : mL) : Mo_within_f (n + 1) 31 x1 x2 x3 x4 σ τ = Mo_within_t31 (Mo_within_f n) n x1 x2 x3 x4 σ τ := by
  show (if 31 = 0 then Mo_within_t0 (Mo_within_f n) n x1 x2 x3 x4 σ τ else if 31 = 31 then Mo_within_t31 (Mo_within_f n) n x1 x2 x3 x4 σ τ else none) = _
  rw [if_neg (by decide), if_pos rfl]
set_option maxRecDepth 100000 in
set_option maxHeartbeats 8000000 in
theorem Mo_within_x {F : xF} {G : xG} {B : Nat} {M : xM} (C : xC F G B cMo_within RMo 5 1 21 0 0) (hr : (xFM F).sig.returnType = (some .int)) : ∀ (n : Nat) (x1 : Int32) (x2 : Int32) (x3 : Int32) (x4 : Int32) (σ : mS) (τ : mL) (R : Int32 × mS × mL), (Mo_within_f n 0 x1 x2 x3 x4 σ τ = some R → XM F G B (xZ F G B (mP M (some (.int R.1)) R.2.1 R.2.2) 0 0) 5 M σ τ 0 [(0, .ref (M.1)), (1, .int (x1))] []) ∧ (Mo_within_f n 31 x1 x2 x3 x4 σ τ = some R → XM F G B (xZ F G B (mP M (some (.int R.1)) R.2.1 R.2.2) 0 0) 5 M σ τ 31 [(0, .ref (M.1)), (1, .int (x1)), (2, .int (x2)), (3, .int (x3)), (4, .int (x4))] []) := by
  intro n
  induction n with
  | zero => exact fun _ _ _ _ _ _ _ => ⟨(fun hR => nomatch (show (none : Option _) = some _ from hR)), (fun hR => nomatch (show (none : Option _) = some _ from hR))⟩
  | succ n ih =>
    intro x1 x2 x3 x4 σ τ R
    refine ⟨fun hR => ?_, fun hR => ?_⟩
    · rw [Mo_within_e0] at hR
      unfold Mo_within_t0 at hR
      refine XM_aload_n C dMo_within_0 rfl ?_
      refine XM_iconst (v := 0) C dMo_within_1 rfl ?_
      refine XM_put (k := 0) C rfl fwMo_124 rfl rfl rfl dMo_within_2 ?_
      obtain ⟨s1, es1, hR⟩ := b_bnd hR
      rw [← es1]
      refine XM_aload_n C dMo_within_5 rfl ?_
      refine XM_iload_n C dMo_within_6 rfl ?_
      obtain ⟨r2, hr2, hR⟩ := o_bind hR
      refine XM_callVi (As := [.int (x1)]) (rest := []) C (Mo_isState_c hr2) wMo_275 ⟨by decide, by decide⟩ rfl rfl (Nat.le_of_ble_eq_true rfl) dMo_within_7 ?_
      refine XM_if_ne (tgt := 15) C dMo_within_10 (by decide) (fun c3 => ?_) (fun c3 => ?_)
      · rw [if_neg c3] at hR
        refine XM_aload_n C dMo_within_15 rfl ?_
        refine XM_get (k := 44) (v := .int (r2.2.1 44 0)) C rfl fwMo_284 dMo_within_16 ?_
        refine XM_if_eq (tgt := 24) C dMo_within_19 (by decide) (fun c4 => ?_) (fun c4 => ?_)
        · rw [if_pos c4] at hR
          refine XM_iconst (v := 1) C dMo_within_24 rfl ?_
          refine XM_istore_n (lv' := [(2, .int ((1 : Int32))), (0, .ref (M.1)), (1, .int (x1))]) C dMo_within_25 (by decide) rfl ?_
          refine XM_iconst (v := 1) C dMo_within_26 rfl ?_
          refine XM_istore_n (lv' := [(3, .int ((1 : Int32))), (2, .int ((1 : Int32))), (0, .ref (M.1)), (1, .int (x1))]) C dMo_within_27 (by decide) rfl ?_
          refine XM_iconst (v := 0) C dMo_within_28 rfl ?_
          refine XM_istore (lv' := [(4, .int ((0 : Int32))), (3, .int ((1 : Int32))), (2, .int ((1 : Int32))), (0, .ref (M.1)), (1, .int (x1))]) C dMo_within_29 (by decide) rfl ?_
          refine XM_sub (lv' := [(0, .ref (M.1)), (1, .int (x1)), (2, .int ((1 : Int32))), (3, .int ((1 : Int32))), (4, .int ((0 : Int32)))]) [3, 4, 2, 1, 0] rfl ?_
          exact (ih (x1) ((1 : Int32)) ((1 : Int32)) ((0 : Int32)) _ _ _).2 hR
        · rw [if_neg c4] at hR
          refine XM_iconst (v := 1) C dMo_within_22 rfl ?_
          have hR := Option.some.inj hR
          subst hR
          exact XM_iret C hr dMo_within_23 rfl rfl rfl
      · rw [if_pos c3] at hR
        refine XM_iconst (v := (-1)) C dMo_within_13 rfl ?_
        have hR := Option.some.inj hR
        subst hR
        exact XM_iret C hr dMo_within_14 rfl rfl rfl
    · rw [Mo_within_e31] at hR
      unfold Mo_within_t31 at hR
      refine XM_iload C dMo_within_31 rfl ?_
      refine XM_bipush (v := 20) C dMo_within_33 (by decide) ?_
      refine XM_icmp_ge (tgt := 124) C dMo_within_35 (by decide) (fun c5 => ?_) (fun c5 => ?_)
      · rw [if_pos c5] at hR
        refine XM_iload_n C dMo_within_124 rfl ?_
        refine XM_if_eq (tgt := 132) C dMo_within_125 (by decide) (fun c6 => ?_) (fun c6 => ?_)
        · rw [if_pos c6] at hR
          refine XM_iconst (v := 0) C dMo_within_132 rfl ?_
          refine XM_iload_n C dMo_within_133 rfl ?_
          refine XM_if_eq (tgt := 141) C dMo_within_134 (by decide) (fun c7 => ?_) (fun c7 => ?_)
          · rw [if_pos c7] at hR
            refine XM_iconst (v := 0) C dMo_within_141 rfl ?_
            refine XM_iadd C dMo_within_142 ?_
            have hR := Option.some.inj hR
            subst hR
            exact XM_iret C hr dMo_within_143 rfl rfl rfl
          · rw [if_neg c7] at hR
            refine XM_iconst (v := 2) C dMo_within_137 rfl ?_
            refine XM_goto (tgt := 142) C dMo_within_138 (by decide) ?_
            refine XM_iadd C dMo_within_142 ?_
            have hR := Option.some.inj hR
            subst hR
            exact XM_iret C hr dMo_within_143 rfl rfl rfl
        · rw [if_neg c6] at hR
          refine XM_iconst (v := 1) C dMo_within_128 rfl ?_
          refine XM_goto (tgt := 133) C dMo_within_129 (by decide) ?_
          refine XM_iload_n C dMo_within_133 rfl ?_
          refine XM_if_eq (tgt := 141) C dMo_within_134 (by decide) (fun c8 => ?_) (fun c8 => ?_)
          · rw [if_pos c8] at hR
            refine XM_iconst (v := 0) C dMo_within_141 rfl ?_
            refine XM_iadd C dMo_within_142 ?_
            have hR := Option.some.inj hR
            subst hR
            exact XM_iret C hr dMo_within_143 rfl rfl rfl
          · rw [if_neg c8] at hR
            refine XM_iconst (v := 2) C dMo_within_137 rfl ?_
            refine XM_goto (tgt := 142) C dMo_within_138 (by decide) ?_
            refine XM_iadd C dMo_within_142 ?_
            have hR := Option.some.inj hR
            subst hR
            exact XM_iret C hr dMo_within_143 rfl rfl rfl
      · rw [if_neg c5] at hR
        refine XM_iload_n C dMo_within_38 rfl ?_
        refine XM_if_eq (tgt := 76) C dMo_within_39 (by decide) (fun c9 => ?_) (fun c9 => ?_)
        · rw [if_pos c9] at hR
          refine XM_iconst (v := 0) C dMo_within_76 rfl ?_
          refine XM_istore_n (lv' := [(2, .int ((0 : Int32))), (0, .ref (M.1)), (1, .int (x1)), (3, .int (x3)), (4, .int (x4))]) C dMo_within_77 (by decide) rfl ?_
          refine XM_iload_n C dMo_within_78 rfl ?_
          refine XM_if_eq (tgt := 116) C dMo_within_79 (by decide) (fun c10 => ?_) (fun c10 => ?_)
          · rw [if_pos c10] at hR
            refine XM_iconst (v := 0) C dMo_within_116 rfl ?_
            refine XM_istore_n (lv' := [(3, .int ((0 : Int32))), (2, .int ((0 : Int32))), (0, .ref (M.1)), (1, .int (x1)), (4, .int (x4))]) C dMo_within_117 (by decide) rfl ?_
            refine XM_iinc (v := x4 + 1) (lv' := [(4, .int (x4 + 1)), (3, .int ((0 : Int32))), (2, .int ((0 : Int32))), (0, .ref (M.1)), (1, .int (x1))]) C dMo_within_118 rfl rfl (by decide) rfl ?_
            refine XM_goto (tgt := 31) C dMo_within_121 (by decide) ?_
            refine XM_sub (lv' := [(0, .ref (M.1)), (1, .int (x1)), (2, .int ((0 : Int32))), (3, .int ((0 : Int32))), (4, .int (x4 + 1))]) [3, 4, 2, 1, 0] rfl ?_
            exact (ih (x1) ((0 : Int32)) ((0 : Int32)) (x4 + 1) _ _ _).2 hR
          · rw [if_neg c10] at hR
            refine XM_iload C dMo_within_82 rfl ?_
            refine XM_iconst (v := 5) C dMo_within_84 rfl ?_
            refine XM_irem C dMo_within_85 (by decide) ?_
            refine XM_iconst (v := 4) C dMo_within_86 rfl ?_
            refine XM_icmp_eq (tgt := 112) C dMo_within_87 (by decide) (fun c11 => ?_) (fun c11 => ?_)
            · rw [if_pos c11] at hR
              refine XM_iconst (v := 1) C dMo_within_112 rfl ?_
              refine XM_goto (tgt := 117) C dMo_within_113 (by decide) ?_
              refine XM_istore_n (lv' := [(3, .int ((1 : Int32))), (2, .int ((0 : Int32))), (0, .ref (M.1)), (1, .int (x1)), (4, .int (x4))]) C dMo_within_117 (by decide) rfl ?_
              refine XM_iinc (v := x4 + 1) (lv' := [(4, .int (x4 + 1)), (3, .int ((1 : Int32))), (2, .int ((0 : Int32))), (0, .ref (M.1)), (1, .int (x1))]) C dMo_within_118 rfl rfl (by decide) rfl ?_
              refine XM_goto (tgt := 31) C dMo_within_121 (by decide) ?_
              refine XM_sub (lv' := [(0, .ref (M.1)), (1, .int (x1)), (2, .int ((0 : Int32))), (3, .int ((1 : Int32))), (4, .int (x4 + 1))]) [3, 4, 2, 1, 0] rfl ?_
              exact (ih (x1) ((0 : Int32)) ((1 : Int32)) (x4 + 1) _ _ _).2 hR
            · rw [if_neg c11] at hR
              refine XM_aload_n C dMo_within_90 rfl ?_
              refine XM_get (k := 25) (v := .ref (M.2.1 25)) C rfl fwMo_61 dMo_within_91 ?_
              refine XM_bipush (v := 25) C dMo_within_94 (by decide) ?_
              refine XM_iload_n C dMo_within_96 rfl ?_
              refine XM_imul C dMo_within_97 ?_
              refine XM_iload C dMo_within_98 rfl ?_
              refine XM_iadd C dMo_within_100 ?_
              obtain ⟨q12, hR⟩ := o_if hR
              refine XM_iald (k := 25) (n := 5000) C rfl (xin_vp q12) dMo_within_101 ?_
              refine XM_aload_n C dMo_within_102 rfl ?_
              refine XM_get (k := 43) (v := .ref (M.2.1 43)) C rfl fwMo_95 dMo_within_103 ?_
              refine XM_iload C dMo_within_106 rfl ?_
              obtain ⟨q13, hR⟩ := o_if hR
              refine XM_iald (k := 43) (n := 25) C rfl (xin_vp q13) dMo_within_108 ?_
              refine XM_icmp_gt (tgt := 116) C dMo_within_109 (by decide) (fun c14 => ?_) (fun c14 => ?_)
              · rw [if_pos c14] at hR
                refine XM_iconst (v := 0) C dMo_within_116 rfl ?_
                refine XM_istore_n (lv' := [(3, .int ((0 : Int32))), (2, .int ((0 : Int32))), (0, .ref (M.1)), (1, .int (x1)), (4, .int (x4))]) C dMo_within_117 (by decide) rfl ?_
                refine XM_iinc (v := x4 + 1) (lv' := [(4, .int (x4 + 1)), (3, .int ((0 : Int32))), (2, .int ((0 : Int32))), (0, .ref (M.1)), (1, .int (x1))]) C dMo_within_118 rfl rfl (by decide) rfl ?_
                refine XM_goto (tgt := 31) C dMo_within_121 (by decide) ?_
                refine XM_sub (lv' := [(0, .ref (M.1)), (1, .int (x1)), (2, .int ((0 : Int32))), (3, .int ((0 : Int32))), (4, .int (x4 + 1))]) [3, 4, 2, 1, 0] rfl ?_
                exact (ih (x1) ((0 : Int32)) ((0 : Int32)) (x4 + 1) _ _ _).2 hR
              · rw [if_neg c14] at hR
                refine XM_iconst (v := 1) C dMo_within_112 rfl ?_
                refine XM_goto (tgt := 117) C dMo_within_113 (by decide) ?_
                refine XM_istore_n (lv' := [(3, .int ((1 : Int32))), (2, .int ((0 : Int32))), (0, .ref (M.1)), (1, .int (x1)), (4, .int (x4))]) C dMo_within_117 (by decide) rfl ?_
                refine XM_iinc (v := x4 + 1) (lv' := [(4, .int (x4 + 1)), (3, .int ((1 : Int32))), (2, .int ((0 : Int32))), (0, .ref (M.1)), (1, .int (x1))]) C dMo_within_118 rfl rfl (by decide) rfl ?_
                refine XM_goto (tgt := 31) C dMo_within_121 (by decide) ?_
                refine XM_sub (lv' := [(0, .ref (M.1)), (1, .int (x1)), (2, .int ((0 : Int32))), (3, .int ((1 : Int32))), (4, .int (x4 + 1))]) [3, 4, 2, 1, 0] rfl ?_
                exact (ih (x1) ((0 : Int32)) ((1 : Int32)) (x4 + 1) _ _ _).2 hR
        · rw [if_neg c9] at hR
          refine XM_iload C dMo_within_42 rfl ?_
          refine XM_iconst (v := 5) C dMo_within_44 rfl ?_
          refine XM_irem C dMo_within_45 (by decide) ?_
          refine XM_iconst (v := 4) C dMo_within_46 rfl ?_
          refine XM_icmp_eq (tgt := 72) C dMo_within_47 (by decide) (fun c15 => ?_) (fun c15 => ?_)
          · rw [if_pos c15] at hR
            refine XM_iconst (v := 1) C dMo_within_72 rfl ?_
            refine XM_goto (tgt := 77) C dMo_within_73 (by decide) ?_
            refine XM_istore_n (lv' := [(2, .int ((1 : Int32))), (0, .ref (M.1)), (1, .int (x1)), (3, .int (x3)), (4, .int (x4))]) C dMo_within_77 (by decide) rfl ?_
            refine XM_iload_n C dMo_within_78 rfl ?_
            refine XM_if_eq (tgt := 116) C dMo_within_79 (by decide) (fun c16 => ?_) (fun c16 => ?_)
            · rw [if_pos c16] at hR
              refine XM_iconst (v := 0) C dMo_within_116 rfl ?_
              refine XM_istore_n (lv' := [(3, .int ((0 : Int32))), (2, .int ((1 : Int32))), (0, .ref (M.1)), (1, .int (x1)), (4, .int (x4))]) C dMo_within_117 (by decide) rfl ?_
              refine XM_iinc (v := x4 + 1) (lv' := [(4, .int (x4 + 1)), (3, .int ((0 : Int32))), (2, .int ((1 : Int32))), (0, .ref (M.1)), (1, .int (x1))]) C dMo_within_118 rfl rfl (by decide) rfl ?_
              refine XM_goto (tgt := 31) C dMo_within_121 (by decide) ?_
              refine XM_sub (lv' := [(0, .ref (M.1)), (1, .int (x1)), (2, .int ((1 : Int32))), (3, .int ((0 : Int32))), (4, .int (x4 + 1))]) [3, 4, 2, 1, 0] rfl ?_
              exact (ih (x1) ((1 : Int32)) ((0 : Int32)) (x4 + 1) _ _ _).2 hR
            · rw [if_neg c16] at hR
              refine XM_iload C dMo_within_82 rfl ?_
              refine XM_iconst (v := 5) C dMo_within_84 rfl ?_
              refine XM_irem C dMo_within_85 (by decide) ?_
              refine XM_iconst (v := 4) C dMo_within_86 rfl ?_
              refine XM_icmp_eq (tgt := 112) C dMo_within_87 (by decide) (fun c17 => ?_) (fun c17 => ?_)
              · rw [if_pos c17] at hR
                refine XM_iconst (v := 1) C dMo_within_112 rfl ?_
                refine XM_goto (tgt := 117) C dMo_within_113 (by decide) ?_
                refine XM_istore_n (lv' := [(3, .int ((1 : Int32))), (2, .int ((1 : Int32))), (0, .ref (M.1)), (1, .int (x1)), (4, .int (x4))]) C dMo_within_117 (by decide) rfl ?_
                refine XM_iinc (v := x4 + 1) (lv' := [(4, .int (x4 + 1)), (3, .int ((1 : Int32))), (2, .int ((1 : Int32))), (0, .ref (M.1)), (1, .int (x1))]) C dMo_within_118 rfl rfl (by decide) rfl ?_
                refine XM_goto (tgt := 31) C dMo_within_121 (by decide) ?_
                refine XM_sub (lv' := [(0, .ref (M.1)), (1, .int (x1)), (2, .int ((1 : Int32))), (3, .int ((1 : Int32))), (4, .int (x4 + 1))]) [3, 4, 2, 1, 0] rfl ?_
                exact (ih (x1) ((1 : Int32)) ((1 : Int32)) (x4 + 1) _ _ _).2 hR
              · rw [if_neg c17] at hR
                refine XM_aload_n C dMo_within_90 rfl ?_
                refine XM_get (k := 25) (v := .ref (M.2.1 25)) C rfl fwMo_61 dMo_within_91 ?_
                refine XM_bipush (v := 25) C dMo_within_94 (by decide) ?_
                refine XM_iload_n C dMo_within_96 rfl ?_
                refine XM_imul C dMo_within_97 ?_
                refine XM_iload C dMo_within_98 rfl ?_
                refine XM_iadd C dMo_within_100 ?_
                obtain ⟨q18, hR⟩ := o_if hR
                refine XM_iald (k := 25) (n := 5000) C rfl (xin_vp q18) dMo_within_101 ?_
                refine XM_aload_n C dMo_within_102 rfl ?_
                refine XM_get (k := 43) (v := .ref (M.2.1 43)) C rfl fwMo_95 dMo_within_103 ?_
                refine XM_iload C dMo_within_106 rfl ?_
                obtain ⟨q19, hR⟩ := o_if hR
                refine XM_iald (k := 43) (n := 25) C rfl (xin_vp q19) dMo_within_108 ?_
                refine XM_icmp_gt (tgt := 116) C dMo_within_109 (by decide) (fun c20 => ?_) (fun c20 => ?_)
                · rw [if_pos c20] at hR
                  refine XM_iconst (v := 0) C dMo_within_116 rfl ?_
                  refine XM_istore_n (lv' := [(3, .int ((0 : Int32))), (2, .int ((1 : Int32))), (0, .ref (M.1)), (1, .int (x1)), (4, .int (x4))]) C dMo_within_117 (by decide) rfl ?_
                  refine XM_iinc (v := x4 + 1) (lv' := [(4, .int (x4 + 1)), (3, .int ((0 : Int32))), (2, .int ((1 : Int32))), (0, .ref (M.1)), (1, .int (x1))]) C dMo_within_118 rfl rfl (by decide) rfl ?_
                  refine XM_goto (tgt := 31) C dMo_within_121 (by decide) ?_
                  refine XM_sub (lv' := [(0, .ref (M.1)), (1, .int (x1)), (2, .int ((1 : Int32))), (3, .int ((0 : Int32))), (4, .int (x4 + 1))]) [3, 4, 2, 1, 0] rfl ?_
                  exact (ih (x1) ((1 : Int32)) ((0 : Int32)) (x4 + 1) _ _ _).2 hR
                · rw [if_neg c20] at hR
                  refine XM_iconst (v := 1) C dMo_within_112 rfl ?_
                  refine XM_goto (tgt := 117) C dMo_within_113 (by decide) ?_
                  refine XM_istore_n (lv' := [(3, .int ((1 : Int32))), (2, .int ((1 : Int32))), (0, .ref (M.1)), (1, .int (x1)), (4, .int (x4))]) C dMo_within_117 (by decide) rfl ?_
                  refine XM_iinc (v := x4 + 1) (lv' := [(4, .int (x4 + 1)), (3, .int ((1 : Int32))), (2, .int ((1 : Int32))), (0, .ref (M.1)), (1, .int (x1))]) C dMo_within_118 rfl rfl (by decide) rfl ?_
                  refine XM_goto (tgt := 31) C dMo_within_121 (by decide) ?_
                  refine XM_sub (lv' := [(0, .ref (M.1)), (1, .int (x1)), (2, .int ((1 : Int32))), (3, .int ((1 : Int32))), (4, .int (x4 + 1))]) [3, 4, 2, 1, 0] rfl ?_
                  exact (ih (x1) ((1 : Int32)) ((1 : Int32)) (x4 + 1) _ _ _).2 hR
          · rw [if_neg c15] at hR
            refine XM_aload_n C dMo_within_50 rfl ?_
            refine XM_get (k := 43) (v := .ref (M.2.1 43)) C rfl fwMo_95 dMo_within_51 ?_
            refine XM_iload C dMo_within_54 rfl ?_
            obtain ⟨q21, hR⟩ := o_if hR
            refine XM_iald (k := 43) (n := 25) C rfl (xin_vp q21) dMo_within_56 ?_
            refine XM_aload_n C dMo_within_57 rfl ?_
            refine XM_get (k := 25) (v := .ref (M.2.1 25)) C rfl fwMo_61 dMo_within_58 ?_
            refine XM_bipush (v := 25) C dMo_within_61 (by decide) ?_
            refine XM_iload_n C dMo_within_63 rfl ?_
            refine XM_imul C dMo_within_64 ?_
            refine XM_iload C dMo_within_65 rfl ?_
            refine XM_iadd C dMo_within_67 ?_
            obtain ⟨q22, hR⟩ := o_if hR
            refine XM_iald (k := 25) (n := 5000) C rfl (xin_vp q22) dMo_within_68 ?_
            refine XM_icmp_gt (tgt := 76) C dMo_within_69 (by decide) (fun c23 => ?_) (fun c23 => ?_)
            · rw [if_pos c23] at hR
              refine XM_iconst (v := 0) C dMo_within_76 rfl ?_
              refine XM_istore_n (lv' := [(2, .int ((0 : Int32))), (0, .ref (M.1)), (1, .int (x1)), (3, .int (x3)), (4, .int (x4))]) C dMo_within_77 (by decide) rfl ?_
              refine XM_iload_n C dMo_within_78 rfl ?_
              refine XM_if_eq (tgt := 116) C dMo_within_79 (by decide) (fun c24 => ?_) (fun c24 => ?_)
              · rw [if_pos c24] at hR
                refine XM_iconst (v := 0) C dMo_within_116 rfl ?_
                refine XM_istore_n (lv' := [(3, .int ((0 : Int32))), (2, .int ((0 : Int32))), (0, .ref (M.1)), (1, .int (x1)), (4, .int (x4))]) C dMo_within_117 (by decide) rfl ?_
                refine XM_iinc (v := x4 + 1) (lv' := [(4, .int (x4 + 1)), (3, .int ((0 : Int32))), (2, .int ((0 : Int32))), (0, .ref (M.1)), (1, .int (x1))]) C dMo_within_118 rfl rfl (by decide) rfl ?_
                refine XM_goto (tgt := 31) C dMo_within_121 (by decide) ?_
                refine XM_sub (lv' := [(0, .ref (M.1)), (1, .int (x1)), (2, .int ((0 : Int32))), (3, .int ((0 : Int32))), (4, .int (x4 + 1))]) [3, 4, 2, 1, 0] rfl ?_
                exact (ih (x1) ((0 : Int32)) ((0 : Int32)) (x4 + 1) _ _ _).2 hR
              · rw [if_neg c24] at hR
                refine XM_iload C dMo_within_82 rfl ?_
                refine XM_iconst (v := 5) C dMo_within_84 rfl ?_
                refine XM_irem C dMo_within_85 (by decide) ?_
                refine XM_iconst (v := 4) C dMo_within_86 rfl ?_
                refine XM_icmp_eq (tgt := 112) C dMo_within_87 (by decide) (fun c25 => ?_) (fun c25 => ?_)
                · rw [if_pos c25] at hR
                  refine XM_iconst (v := 1) C dMo_within_112 rfl ?_
                  refine XM_goto (tgt := 117) C dMo_within_113 (by decide) ?_
                  refine XM_istore_n (lv' := [(3, .int ((1 : Int32))), (2, .int ((0 : Int32))), (0, .ref (M.1)), (1, .int (x1)), (4, .int (x4))]) C dMo_within_117 (by decide) rfl ?_
                  refine XM_iinc (v := x4 + 1) (lv' := [(4, .int (x4 + 1)), (3, .int ((1 : Int32))), (2, .int ((0 : Int32))), (0, .ref (M.1)), (1, .int (x1))]) C dMo_within_118 rfl rfl (by decide) rfl ?_
                  refine XM_goto (tgt := 31) C dMo_within_121 (by decide) ?_
                  refine XM_sub (lv' := [(0, .ref (M.1)), (1, .int (x1)), (2, .int ((0 : Int32))), (3, .int ((1 : Int32))), (4, .int (x4 + 1))]) [3, 4, 2, 1, 0] rfl ?_
                  exact (ih (x1) ((0 : Int32)) ((1 : Int32)) (x4 + 1) _ _ _).2 hR
                · rw [if_neg c25] at hR
                  refine XM_aload_n C dMo_within_90 rfl ?_
                  refine XM_get (k := 25) (v := .ref (M.2.1 25)) C rfl fwMo_61 dMo_within_91 ?_
                  refine XM_bipush (v := 25) C dMo_within_94 (by decide) ?_
                  refine XM_iload_n C dMo_within_96 rfl ?_
                  refine XM_imul C dMo_within_97 ?_
                  refine XM_iload C dMo_within_98 rfl ?_
                  refine XM_iadd C dMo_within_100 ?_
                  obtain ⟨q26, hR⟩ := o_if hR
                  refine XM_iald (k := 25) (n := 5000) C rfl (xin_vp q26) dMo_within_101 ?_
                  refine XM_aload_n C dMo_within_102 rfl ?_
                  refine XM_get (k := 43) (v := .ref (M.2.1 43)) C rfl fwMo_95 dMo_within_103 ?_
                  refine XM_iload C dMo_within_106 rfl ?_
                  obtain ⟨q27, hR⟩ := o_if hR
                  refine XM_iald (k := 43) (n := 25) C rfl (xin_vp q27) dMo_within_108 ?_
                  refine XM_icmp_gt (tgt := 116) C dMo_within_109 (by decide) (fun c28 => ?_) (fun c28 => ?_)
                  · rw [if_pos c28] at hR
                    refine XM_iconst (v := 0) C dMo_within_116 rfl ?_
                    refine XM_istore_n (lv' := [(3, .int ((0 : Int32))), (2, .int ((0 : Int32))), (0, .ref (M.1)), (1, .int (x1)), (4, .int (x4))]) C dMo_within_117 (by decide) rfl ?_
                    refine XM_iinc (v := x4 + 1) (lv' := [(4, .int (x4 + 1)), (3, .int ((0 : Int32))), (2, .int ((0 : Int32))), (0, .ref (M.1)), (1, .int (x1))]) C dMo_within_118 rfl rfl (by decide) rfl ?_
                    refine XM_goto (tgt := 31) C dMo_within_121 (by decide) ?_
                    refine XM_sub (lv' := [(0, .ref (M.1)), (1, .int (x1)), (2, .int ((0 : Int32))), (3, .int ((0 : Int32))), (4, .int (x4 + 1))]) [3, 4, 2, 1, 0] rfl ?_
                    exact (ih (x1) ((0 : Int32)) ((0 : Int32)) (x4 + 1) _ _ _).2 hR
                  · rw [if_neg c28] at hR
                    refine XM_iconst (v := 1) C dMo_within_112 rfl ?_
                    refine XM_goto (tgt := 117) C dMo_within_113 (by decide) ?_
                    refine XM_istore_n (lv' := [(3, .int ((1 : Int32))), (2, .int ((0 : Int32))), (0, .ref (M.1)), (1, .int (x1)), (4, .int (x4))]) C dMo_within_117 (by decide) rfl ?_
                    refine XM_iinc (v := x4 + 1) (lv' := [(4, .int (x4 + 1)), (3, .int ((1 : Int32))), (2, .int ((0 : Int32))), (0, .ref (M.1)), (1, .int (x1))]) C dMo_within_118 rfl rfl (by decide) rfl ?_
                    refine XM_goto (tgt := 31) C dMo_within_121 (by decide) ?_
                    refine XM_sub (lv' := [(0, .ref (M.1)), (1, .int (x1)), (2, .int ((0 : Int32))), (3, .int ((1 : Int32))), (4, .int (x4 + 1))]) [3, 4, 2, 1, 0] rfl ?_
                    exact (ih (x1) ((0 : Int32)) ((1 : Int32)) (x4 + 1) _ _ _).2 hR
            · rw [if_neg c23] at hR
              refine XM_iconst (v := 1) C dMo_within_72 rfl ?_
              refine XM_goto (tgt := 77) C dMo_within_73 (by decide) ?_
              refine XM_istore_n (lv' := [(2, .int ((1 : Int32))), (0, .ref (M.1)), (1, .int (x1)), (3, .int (x3)), (4, .int (x4))]) C dMo_within_77 (by decide) rfl ?_
              refine XM_iload_n C dMo_within_78 rfl ?_
              refine XM_if_eq (tgt := 116) C dMo_within_79 (by decide) (fun c29 => ?_) (fun c29 => ?_)
              · rw [if_pos c29] at hR
                refine XM_iconst (v := 0) C dMo_within_116 rfl ?_
                refine XM_istore_n (lv' := [(3, .int ((0 : Int32))), (2, .int ((1 : Int32))), (0, .ref (M.1)), (1, .int (x1)), (4, .int (x4))]) C dMo_within_117 (by decide) rfl ?_
                refine XM_iinc (v := x4 + 1) (lv' := [(4, .int (x4 + 1)), (3, .int ((0 : Int32))), (2, .int ((1 : Int32))), (0, .ref (M.1)), (1, .int (x1))]) C dMo_within_118 rfl rfl (by decide) rfl ?_
                refine XM_goto (tgt := 31) C dMo_within_121 (by decide) ?_
                refine XM_sub (lv' := [(0, .ref (M.1)), (1, .int (x1)), (2, .int ((1 : Int32))), (3, .int ((0 : Int32))), (4, .int (x4 + 1))]) [3, 4, 2, 1, 0] rfl ?_
                exact (ih (x1) ((1 : Int32)) ((0 : Int32)) (x4 + 1) _ _ _).2 hR
              · rw [if_neg c29] at hR
                refine XM_iload C dMo_within_82 rfl ?_
                refine XM_iconst (v := 5) C dMo_within_84 rfl ?_
                refine XM_irem C dMo_within_85 (by decide) ?_
                refine XM_iconst (v := 4) C dMo_within_86 rfl ?_
                refine XM_icmp_eq (tgt := 112) C dMo_within_87 (by decide) (fun c30 => ?_) (fun c30 => ?_)
                · rw [if_pos c30] at hR
                  refine XM_iconst (v := 1) C dMo_within_112 rfl ?_
                  refine XM_goto (tgt := 117) C dMo_within_113 (by decide) ?_
                  refine XM_istore_n (lv' := [(3, .int ((1 : Int32))), (2, .int ((1 : Int32))), (0, .ref (M.1)), (1, .int (x1)), (4, .int (x4))]) C dMo_within_117 (by decide) rfl ?_
                  refine XM_iinc (v := x4 + 1) (lv' := [(4, .int (x4 + 1)), (3, .int ((1 : Int32))), (2, .int ((1 : Int32))), (0, .ref (M.1)), (1, .int (x1))]) C dMo_within_118 rfl rfl (by decide) rfl ?_
                  refine XM_goto (tgt := 31) C dMo_within_121 (by decide) ?_
                  refine XM_sub (lv' := [(0, .ref (M.1)), (1, .int (x1)), (2, .int ((1 : Int32))), (3, .int ((1 : Int32))), (4, .int (x4 + 1))]) [3, 4, 2, 1, 0] rfl ?_
                  exact (ih (x1) ((1 : Int32)) ((1 : Int32)) (x4 + 1) _ _ _).2 hR
                · rw [if_neg c30] at hR
                  refine XM_aload_n C dMo_within_90 rfl ?_
                  refine XM_get (k := 25) (v := .ref (M.2.1 25)) C rfl fwMo_61 dMo_within_91 ?_
                  refine XM_bipush (v := 25) C dMo_within_94 (by decide) ?_
                  refine XM_iload_n C dMo_within_96 rfl ?_
                  refine XM_imul C dMo_within_97 ?_
                  refine XM_iload C dMo_within_98 rfl ?_
                  refine XM_iadd C dMo_within_100 ?_
                  obtain ⟨q31, hR⟩ := o_if hR
                  refine XM_iald (k := 25) (n := 5000) C rfl (xin_vp q31) dMo_within_101 ?_
                  refine XM_aload_n C dMo_within_102 rfl ?_
                  refine XM_get (k := 43) (v := .ref (M.2.1 43)) C rfl fwMo_95 dMo_within_103 ?_
                  refine XM_iload C dMo_within_106 rfl ?_
                  obtain ⟨q32, hR⟩ := o_if hR
                  refine XM_iald (k := 43) (n := 25) C rfl (xin_vp q32) dMo_within_108 ?_
                  refine XM_icmp_gt (tgt := 116) C dMo_within_109 (by decide) (fun c33 => ?_) (fun c33 => ?_)
                  · rw [if_pos c33] at hR
                    refine XM_iconst (v := 0) C dMo_within_116 rfl ?_
                    refine XM_istore_n (lv' := [(3, .int ((0 : Int32))), (2, .int ((1 : Int32))), (0, .ref (M.1)), (1, .int (x1)), (4, .int (x4))]) C dMo_within_117 (by decide) rfl ?_
                    refine XM_iinc (v := x4 + 1) (lv' := [(4, .int (x4 + 1)), (3, .int ((0 : Int32))), (2, .int ((1 : Int32))), (0, .ref (M.1)), (1, .int (x1))]) C dMo_within_118 rfl rfl (by decide) rfl ?_
                    refine XM_goto (tgt := 31) C dMo_within_121 (by decide) ?_
                    refine XM_sub (lv' := [(0, .ref (M.1)), (1, .int (x1)), (2, .int ((1 : Int32))), (3, .int ((0 : Int32))), (4, .int (x4 + 1))]) [3, 4, 2, 1, 0] rfl ?_
                    exact (ih (x1) ((1 : Int32)) ((0 : Int32)) (x4 + 1) _ _ _).2 hR
                  · rw [if_neg c33] at hR
                    refine XM_iconst (v := 1) C dMo_within_112 rfl ?_
                    refine XM_goto (tgt := 117) C dMo_within_113 (by decide) ?_
                    refine XM_istore_n (lv' := [(3, .int ((1 : Int32))), (2, .int ((1 : Int32))), (0, .ref (M.1)), (1, .int (x1)), (4, .int (x4))]) C dMo_within_117 (by decide) rfl ?_
                    refine XM_iinc (v := x4 + 1) (lv' := [(4, .int (x4 + 1)), (3, .int ((1 : Int32))), (2, .int ((1 : Int32))), (0, .ref (M.1)), (1, .int (x1))]) C dMo_within_118 rfl rfl (by decide) rfl ?_
                    refine XM_goto (tgt := 31) C dMo_within_121 (by decide) ?_
                    refine XM_sub (lv' := [(0, .ref (M.1)), (1, .int (x1)), (2, .int ((1 : Int32))), (3, .int ((1 : Int32))), (4, .int (x4 + 1))]) [3, 4, 2, 1, 0] rfl ?_
                    exact (ih (x1) ((1 : Int32)) ((1 : Int32)) (x4 + 1) _ _ _).2 hR
theorem Mo_within_c {l : Launch} {G : xG} {B : Nat} {M : xM} {n : Nat} {x1 : Int32} {σ : mS} {τ : mL} {R : Int32 × mS × mL} (hR : Mo_within_f n 0 x1 0 0 0 σ τ = some R) : mCon l yMo_within cMo_within 5 (some .int) 1 21 G B M [.ref M.1, .int x1] σ τ (some (.int R.1)) R.2.1 R.2.2 := mCon.of (by decide) (Nat.le_of_ble_eq_true rfl) (fun F e C hr => XM_sub (lv' := [(0, .ref (M.1)), (1, .int (x1))]) [0, 1] rfl ((Mo_within_x C hr n x1 0 0 0 σ τ R).1 hR))
def Mo_handBound_f (n : Nat) (x1 : Int32) (x2 : Int32) (σ : mS) (τ : mL) : Option (Int32 × mS × mL) := (if Mo_isIn_f (Int32.toInt64 (x1)) ((0 : Int64)) ((3 : Int64)) = 0 then bnd (su σ 0 0 ((1 : Int32))) (fun s2 => some ((0 : Int32), s2, τ)) else (if Mo_isIn_f (Int32.toInt64 (x2)) ((0 : Int64)) ((3 : Int64)) = 0 then bnd (su σ 0 0 ((1 : Int32))) (fun s4 => some ((0 : Int32), s4, τ)) else bnd (su σ 0 0 ((0 : Int32))) (fun s5 => (if s5 44 0 = 0 then (if xin ((((5 : Int32)) * (x1)) + (x2)) 25 = true then some (s5 43 (Int32.toNatClampNeg ((((5 : Int32)) * (x1)) + (x2))), s5, τ) else none) else some (((-2000000) : Int32), s5, τ)))))
set_option maxRecDepth 100000 in
set_option maxHeartbeats 8000000 in
theorem Mo_handBound_x {F : xF} {G : xG} {B : Nat} {M : xM} (C : xC F G B cMo_handBound RMo 4 1 25 0 0) (hr : (xFM F).sig.returnType = (some .int)) {n : Nat} {x1 x2 : Int32} {σ : mS} {τ : mL} {R : Int32 × mS × mL} (hR : Mo_handBound_f n x1 x2 σ τ = some R) : XM F G B (xZ F G B (mP M (some (.int R.1)) R.2.1 R.2.2) 0 0) 4 M σ τ 0 [(0, .ref (M.1)), (1, .int (x1)), (2, .int (x2))] [] := by
  unfold Mo_handBound_f at hR
  refine XM_iload_n C dMo_handBound_0 rfl ?_
  refine XM_i2l C dMo_handBound_1 ?_
  refine XM_lconst (v := 0) C dMo_handBound_2 rfl ?_
  refine XM_ldc2 (v := 3) C kMo_139 dMo_handBound_3 ?_
  refine XM_callSi (As := [.long (Int32.toInt64 (x1)), .long ((0 : Int64)), .long ((3 : Int64))]) (rest := []) C (Mo_isIn_c (Int32.toInt64 (x1)) ((0 : Int64)) ((3 : Int64))) wMo_141 ⟨by decide, by decide⟩ rfl rfl (Nat.le_of_ble_eq_true rfl) dMo_handBound_6 ?_
  refine XM_if_eq (tgt := 28) C dMo_handBound_9 (by decide) (fun c1 => ?_) (fun c1 => ?_)
  · rw [if_pos c1] at hR
    refine XM_iconst (v := 0) C dMo_handBound_28 rfl ?_
    refine XM_istore_n (lv' := [(3, .int ((0 : Int32))), (0, .ref (M.1)), (1, .int (x1)), (2, .int (x2))]) C dMo_handBound_29 (by decide) rfl ?_
    refine XM_aload_n C dMo_handBound_30 rfl ?_
    refine XM_iload_n C dMo_handBound_31 rfl ?_
    refine XM_if_eq (tgt := 39) C dMo_handBound_32 (by decide) (fun _ => ?_) (fun c => absurd c (by decide))
    refine XM_iconst (v := 1) C dMo_handBound_39 rfl ?_
    refine XM_put (k := 0) C rfl fwMo_124 rfl rfl rfl dMo_handBound_40 ?_
    obtain ⟨s2, es2, hR⟩ := b_bnd hR
    rw [← es2]
    refine XM_iload_n C dMo_handBound_43 rfl ?_
    refine XM_if_ne (tgt := 51) C dMo_handBound_44 (by decide) (fun c => absurd c (by decide)) (fun _ => ?_)
    refine XM_iconst (v := 0) C dMo_handBound_47 rfl ?_
    refine XM_goto (tgt := 74) C dMo_handBound_48 (by decide) ?_
    have hR := Option.some.inj hR
    subst hR
    exact XM_iret C hr dMo_handBound_74 rfl rfl rfl
  · rw [if_neg c1] at hR
    refine XM_iload_n C dMo_handBound_12 rfl ?_
    refine XM_i2l C dMo_handBound_13 ?_
    refine XM_lconst (v := 0) C dMo_handBound_14 rfl ?_
    refine XM_ldc2 (v := 3) C kMo_139 dMo_handBound_15 ?_
    refine XM_callSi (As := [.long (Int32.toInt64 (x2)), .long ((0 : Int64)), .long ((3 : Int64))]) (rest := []) C (Mo_isIn_c (Int32.toInt64 (x2)) ((0 : Int64)) ((3 : Int64))) wMo_141 ⟨by decide, by decide⟩ rfl rfl (Nat.le_of_ble_eq_true rfl) dMo_handBound_18 ?_
    refine XM_if_eq (tgt := 28) C dMo_handBound_21 (by decide) (fun c3 => ?_) (fun c3 => ?_)
    · rw [if_pos c3] at hR
      refine XM_iconst (v := 0) C dMo_handBound_28 rfl ?_
      refine XM_istore_n (lv' := [(3, .int ((0 : Int32))), (0, .ref (M.1)), (1, .int (x1)), (2, .int (x2))]) C dMo_handBound_29 (by decide) rfl ?_
      refine XM_aload_n C dMo_handBound_30 rfl ?_
      refine XM_iload_n C dMo_handBound_31 rfl ?_
      refine XM_if_eq (tgt := 39) C dMo_handBound_32 (by decide) (fun _ => ?_) (fun c => absurd c (by decide))
      refine XM_iconst (v := 1) C dMo_handBound_39 rfl ?_
      refine XM_put (k := 0) C rfl fwMo_124 rfl rfl rfl dMo_handBound_40 ?_
      obtain ⟨s4, es4, hR⟩ := b_bnd hR
      rw [← es4]
      refine XM_iload_n C dMo_handBound_43 rfl ?_
      refine XM_if_ne (tgt := 51) C dMo_handBound_44 (by decide) (fun c => absurd c (by decide)) (fun _ => ?_)
      refine XM_iconst (v := 0) C dMo_handBound_47 rfl ?_
      refine XM_goto (tgt := 74) C dMo_handBound_48 (by decide) ?_
      have hR := Option.some.inj hR
      subst hR
      exact XM_iret C hr dMo_handBound_74 rfl rfl rfl
    · rw [if_neg c3] at hR
      refine XM_iconst (v := 1) C dMo_handBound_24 rfl ?_
      refine XM_goto (tgt := 29) C dMo_handBound_25 (by decide) ?_
      refine XM_istore_n (lv' := [(3, .int ((1 : Int32))), (0, .ref (M.1)), (1, .int (x1)), (2, .int (x2))]) C dMo_handBound_29 (by decide) rfl ?_
      refine XM_aload_n C dMo_handBound_30 rfl ?_
      refine XM_iload_n C dMo_handBound_31 rfl ?_
      refine XM_if_eq (tgt := 39) C dMo_handBound_32 (by decide) (fun c => absurd c (by decide)) (fun _ => ?_)
      refine XM_iconst (v := 0) C dMo_handBound_35 rfl ?_
      refine XM_goto (tgt := 40) C dMo_handBound_36 (by decide) ?_
      refine XM_put (k := 0) C rfl fwMo_124 rfl rfl rfl dMo_handBound_40 ?_
      obtain ⟨s5, es5, hR⟩ := b_bnd hR
      rw [← es5]
      refine XM_iload_n C dMo_handBound_43 rfl ?_
      refine XM_if_ne (tgt := 51) C dMo_handBound_44 (by decide) (fun _ => ?_) (fun c => absurd c (by decide))
      refine XM_aload_n C dMo_handBound_51 rfl ?_
      refine XM_get (k := 44) (v := .int (s5 44 0)) C rfl fwMo_284 dMo_handBound_52 ?_
      refine XM_if_eq (tgt := 64) C dMo_handBound_55 (by decide) (fun c6 => ?_) (fun c6 => ?_)
      · rw [if_pos c6] at hR
        refine XM_aload_n C dMo_handBound_64 rfl ?_
        refine XM_get (k := 43) (v := .ref (M.2.1 43)) C rfl fwMo_95 dMo_handBound_65 ?_
        refine XM_iconst (v := 5) C dMo_handBound_68 rfl ?_
        refine XM_iload_n C dMo_handBound_69 rfl ?_
        refine XM_imul C dMo_handBound_70 ?_
        refine XM_iload_n C dMo_handBound_71 rfl ?_
        refine XM_iadd C dMo_handBound_72 ?_
        obtain ⟨q7, hR⟩ := o_if hR
        refine XM_iald (k := 43) (n := 25) C rfl (xin_vp q7) dMo_handBound_73 ?_
        have hR := Option.some.inj hR
        subst hR
        exact XM_iret C hr dMo_handBound_74 rfl rfl rfl
      · rw [if_neg c6] at hR
        refine XM_ldcw (v := (-2000000)) C kMo_300 dMo_handBound_58 ?_
        refine XM_goto (tgt := 74) C dMo_handBound_61 (by decide) ?_
        have hR := Option.some.inj hR
        subst hR
        exact XM_iret C hr dMo_handBound_74 rfl rfl rfl
theorem Mo_handBound_c {l : Launch} {G : xG} {B : Nat} {M : xM} {n : Nat} {x1 x2 : Int32} {σ : mS} {τ : mL} {R : Int32 × mS × mL} (hR : Mo_handBound_f n x1 x2 σ τ = some R) : mCon l yMo_handBound cMo_handBound 4 (some .int) 1 25 G B M [.ref M.1, .int x1, .int x2] σ τ (some (.int R.1)) R.2.1 R.2.2 := mCon.of (by decide) (Nat.le_of_ble_eq_true rfl) (fun F e C hr => XM_sub (lv' := [(0, .ref (M.1)), (1, .int (x1)), (2, .int (x2))]) [0, 1, 2] rfl (Mo_handBound_x C hr hR))
def Mo_count_f (n : Nat) (x1 : Int32) (σ : mS) (τ : mL) : Option (Int32 × mS × mL) := bnd (su σ 0 0 ((0 : Int32))) (fun s1 => (if x1 = 0 then some (s1 1 0, s1, τ) else (if x1 = 1 then some (s1 22 0, s1, τ) else (if x1 = 2 then some (s1 23 0, s1, τ) else (if x1 = 3 then some (s1 34 0, s1, τ) else (if x1 = 4 then some (s1 35 0, s1, τ) else (if x1 = 5 then (if xin ((x1) - ((5 : Int32))) 3 = true then some (s1 42 (Int32.toNatClampNeg ((x1) - ((5 : Int32)))), s1, τ) else none) else (if x1 = 6 then (if xin ((x1) - ((5 : Int32))) 3 = true then some (s1 42 (Int32.toNatClampNeg ((x1) - ((5 : Int32)))), s1, τ) else none) else (if x1 = 7 then (if xin ((x1) - ((5 : Int32))) 3 = true then some (s1 42 (Int32.toNatClampNeg ((x1) - ((5 : Int32)))), s1, τ) else none) else some (((-1) : Int32), s1, τ))))))))))
set_option maxRecDepth 100000 in
set_option maxHeartbeats 8000000 in
theorem Mo_count_x {F : xF} {G : xG} {B : Nat} {M : xM} (C : xC F G B cMo_count RMo 2 0 0 0 0) (hr : (xFM F).sig.returnType = (some .int)) {n : Nat} {x1 : Int32} {σ : mS} {τ : mL} {R : Int32 × mS × mL} (hR : Mo_count_f n x1 σ τ = some R) : XM F G B (xZ F G B (mP M (some (.int R.1)) R.2.1 R.2.2) 0 0) 2 M σ τ 0 [(0, .ref (M.1)), (1, .int (x1))] [] := by
  unfold Mo_count_f at hR
  refine XM_aload_n C dMo_count_0 rfl ?_
  refine XM_iconst (v := 0) C dMo_count_1 rfl ?_
  refine XM_put (k := 0) C rfl fwMo_124 rfl rfl rfl dMo_count_2 ?_
  obtain ⟨s1, es1, hR⟩ := b_bnd hR
  rw [← es1]
  refine XM_iload_n C dMo_count_5 rfl ?_
  by_cases c2 : x1 = 0
  · rw [if_pos c2] at hR
    refine XM_tableIn (off := 46) (tgt := 52) C dMo_count_6 (by rw [c2]; decide) (by rw [c2]; decide) (by rw [c2]; rfl) (by decide) ?_
    refine XM_aload_n C dMo_count_52 rfl ?_
    refine XM_get (k := 1) (v := .int (s1 1 0)) C rfl fwMo_128 dMo_count_53 ?_
    have hR := Option.some.inj hR
    subst hR
    exact XM_iret C hr dMo_count_56 rfl rfl rfl
  · rw [if_neg c2] at hR
    by_cases c3 : x1 = 1
    · rw [if_pos c3] at hR
      refine XM_tableIn (off := 51) (tgt := 57) C dMo_count_6 (by rw [c3]; decide) (by rw [c3]; decide) (by rw [c3]; rfl) (by decide) ?_
      refine XM_aload_n C dMo_count_57 rfl ?_
      refine XM_get (k := 22) (v := .int (s1 22 0)) C rfl fwMo_199 dMo_count_58 ?_
      have hR := Option.some.inj hR
      subst hR
      exact XM_iret C hr dMo_count_61 rfl rfl rfl
    · rw [if_neg c3] at hR
      by_cases c4 : x1 = 2
      · rw [if_pos c4] at hR
        refine XM_tableIn (off := 56) (tgt := 62) C dMo_count_6 (by rw [c4]; decide) (by rw [c4]; decide) (by rw [c4]; rfl) (by decide) ?_
        refine XM_aload_n C dMo_count_62 rfl ?_
        refine XM_get (k := 23) (v := .int (s1 23 0)) C rfl fwMo_254 dMo_count_63 ?_
        have hR := Option.some.inj hR
        subst hR
        exact XM_iret C hr dMo_count_66 rfl rfl rfl
      · rw [if_neg c4] at hR
        by_cases c5 : x1 = 3
        · rw [if_pos c5] at hR
          refine XM_tableIn (off := 61) (tgt := 67) C dMo_count_6 (by rw [c5]; decide) (by rw [c5]; decide) (by rw [c5]; rfl) (by decide) ?_
          refine XM_aload_n C dMo_count_67 rfl ?_
          refine XM_get (k := 34) (v := .int (s1 34 0)) C rfl fwMo_248 dMo_count_68 ?_
          have hR := Option.some.inj hR
          subst hR
          exact XM_iret C hr dMo_count_71 rfl rfl rfl
        · rw [if_neg c5] at hR
          by_cases c6 : x1 = 4
          · rw [if_pos c6] at hR
            refine XM_tableIn (off := 66) (tgt := 72) C dMo_count_6 (by rw [c6]; decide) (by rw [c6]; decide) (by rw [c6]; rfl) (by decide) ?_
            refine XM_aload_n C dMo_count_72 rfl ?_
            refine XM_get (k := 35) (v := .int (s1 35 0)) C rfl fwMo_251 dMo_count_73 ?_
            have hR := Option.some.inj hR
            subst hR
            exact XM_iret C hr dMo_count_76 rfl rfl rfl
          · rw [if_neg c6] at hR
            by_cases c7 : x1 = 5
            · rw [if_pos c7] at hR
              refine XM_tableIn (off := 71) (tgt := 77) C dMo_count_6 (by rw [c7]; decide) (by rw [c7]; decide) (by rw [c7]; rfl) (by decide) ?_
              refine XM_aload_n C dMo_count_77 rfl ?_
              refine XM_get (k := 42) (v := .ref (M.2.1 42)) C rfl fwMo_92 dMo_count_78 ?_
              refine XM_iload_n C dMo_count_81 rfl ?_
              refine XM_iconst (v := 5) C dMo_count_82 rfl ?_
              refine XM_isub C dMo_count_83 ?_
              obtain ⟨q8, hR⟩ := o_if hR
              refine XM_iald (k := 42) (n := 3) C rfl (xin_vp q8) dMo_count_84 ?_
              have hR := Option.some.inj hR
              subst hR
              exact XM_iret C hr dMo_count_85 rfl rfl rfl
            · rw [if_neg c7] at hR
              by_cases c9 : x1 = 6
              · rw [if_pos c9] at hR
                refine XM_tableIn (off := 71) (tgt := 77) C dMo_count_6 (by rw [c9]; decide) (by rw [c9]; decide) (by rw [c9]; rfl) (by decide) ?_
                refine XM_aload_n C dMo_count_77 rfl ?_
                refine XM_get (k := 42) (v := .ref (M.2.1 42)) C rfl fwMo_92 dMo_count_78 ?_
                refine XM_iload_n C dMo_count_81 rfl ?_
                refine XM_iconst (v := 5) C dMo_count_82 rfl ?_
                refine XM_isub C dMo_count_83 ?_
                obtain ⟨q10, hR⟩ := o_if hR
                refine XM_iald (k := 42) (n := 3) C rfl (xin_vp q10) dMo_count_84 ?_
                have hR := Option.some.inj hR
                subst hR
                exact XM_iret C hr dMo_count_85 rfl rfl rfl
              · rw [if_neg c9] at hR
                by_cases c11 : x1 = 7
                · rw [if_pos c11] at hR
                  refine XM_tableIn (off := 71) (tgt := 77) C dMo_count_6 (by rw [c11]; decide) (by rw [c11]; decide) (by rw [c11]; rfl) (by decide) ?_
                  refine XM_aload_n C dMo_count_77 rfl ?_
                  refine XM_get (k := 42) (v := .ref (M.2.1 42)) C rfl fwMo_92 dMo_count_78 ?_
                  refine XM_iload_n C dMo_count_81 rfl ?_
                  refine XM_iconst (v := 5) C dMo_count_82 rfl ?_
                  refine XM_isub C dMo_count_83 ?_
                  obtain ⟨q12, hR⟩ := o_if hR
                  refine XM_iald (k := 42) (n := 3) C rfl (xin_vp q12) dMo_count_84 ?_
                  have hR := Option.some.inj hR
                  subst hR
                  exact XM_iret C hr dMo_count_85 rfl rfl rfl
                · rw [if_neg c11] at hR
                  have ec2 := lv_neT (a := 0) c2 (by decide)
                  have ec3 := lv_neT (a := 1) c3 (by decide)
                  have ec4 := lv_neT (a := 2) c4 (by decide)
                  have ec5 := lv_neT (a := 3) c5 (by decide)
                  have ec6 := lv_neT (a := 4) c6 (by decide)
                  have ec7 := lv_neT (a := 5) c7 (by decide)
                  have ec9 := lv_neT (a := 6) c9 (by decide)
                  have ec11 := lv_neT (a := 7) c11 (by decide)
                  refine XM_tableOut (tgt := 86) C dMo_count_6 (by omega) (by decide) ?_
                  refine XM_iconst (v := (-1)) C dMo_count_86 rfl ?_
                  have hR := Option.some.inj hR
                  subst hR
                  exact XM_iret C hr dMo_count_87 rfl rfl rfl
theorem Mo_count_c {l : Launch} {G : xG} {B : Nat} {M : xM} {n : Nat} {x1 : Int32} {σ : mS} {τ : mL} {R : Int32 × mS × mL} (hR : Mo_count_f n x1 σ τ = some R) : mCon l yMo_count cMo_count 2 (some .int) 0 0 G B M [.ref M.1, .int x1] σ τ (some (.int R.1)) R.2.1 R.2.2 := mCon.of (by decide) (Nat.le_of_ble_eq_true rfl) (fun F e C hr => XM_sub (lv' := [(0, .ref (M.1)), (1, .int (x1))]) [0, 1] rfl (Mo_count_x C hr hR))
