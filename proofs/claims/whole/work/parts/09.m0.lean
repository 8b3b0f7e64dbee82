def Mo_thrown_f (n : Nat)  (σ : mS) (τ : mL) : Option (Int32 × mS × mL) := some (σ 0 0, σ, τ)
set_option maxRecDepth 100000 in
set_option maxHeartbeats 8000000 in
theorem Mo_thrown_x {F : xF} {G : xG} {B : Nat} {M : xM} (C : xC F G B cMo_thrown RMo 1 0 0 0 0) (hr : (xFM F).sig.returnType = (some .int)) {n : Nat} {σ : mS} {τ : mL} {R : Int32 × mS × mL} (hR : Mo_thrown_f n σ τ = some R) : XM F G B (xZ F G B (mP M (some (.int R.1)) R.2.1 R.2.2) 0 0) 1 M σ τ 0 [(0, .ref (M.1))] [] := by
  unfold Mo_thrown_f at hR
  refine XM_aload_n C dMo_thrown_0 rfl ?_
  refine XM_get (k := 0) (v := .int (σ 0 0)) C rfl fwMo_124 dMo_thrown_1 ?_
  have hR := Option.some.inj hR
  subst hR
  exact XM_iret C hr dMo_thrown_4 rfl rfl rfl
theorem Mo_thrown_c {l : Launch} {G : xG} {B : Nat} {M : xM} {n : Nat} {σ : mS} {τ : mL} {R : Int32 × mS × mL} (hR : Mo_thrown_f n  σ τ = some R) : mCon l yMo_thrown cMo_thrown 1 (some .int) 0 0 G B M [.ref M.1] σ τ (some (.int R.1)) R.2.1 R.2.2 := mCon.of (by decide) (Nat.le_of_ble_eq_true rfl) (fun F e C hr => XM_sub (lv' := [(0, .ref (M.1))]) [0] rfl (Mo_thrown_x C hr hR))
def Mo_isIn_f (x0 : Int64) (x2 : Int64) (x4 : Int64) : Int32 := (if lg_cmp (x0) (x2) < 0 then (0 : Int32) else (if 0 < lg_cmp (x0) (x4) then (0 : Int32) else (1 : Int32)))
set_option maxRecDepth 100000 in
set_option maxHeartbeats 4000000 in
theorem Mo_isIn_c {l : Launch} {G : xG} {B : Nat} (x0 : Int64) (x2 : Int64) (x4 : Int64) : pCon l yMo_isIn cMo_isIn 6 (some .boolean) 0 0 G B [.long (x0), .long (x2), .long (x4)] (some (.int (Mo_isIn_f x0 x2 x4))) := by
  refine pCon.of (by decide) (Nat.le_of_ble_eq_true rfl) (fun F h sz e C hr => ?_)
  subst e
  obtain ⟨R, hR⟩ : ∃ R, Mo_isIn_f x0 x2 x4 = R := ⟨_, rfl⟩
  rw [hR]
  unfold Mo_isIn_f at hR
  refine X_sub (lv' := [(0, .long (x0)), (2, .long (x2)), (4, .long (x4))]) [0, 1, 2] rfl ?_
  refine X_lload_n C dMo_isIn_0 rfl ?_
  refine X_lload_n C dMo_isIn_1 rfl ?_
  refine X_lcmp C dMo_isIn_2 ?_
  refine X_if_lt (tgt := 17) C dMo_isIn_3 (by decide) (fun c1 => ?_) (fun c1 => ?_)
  · rw [if_pos c1] at hR
    refine X_iconst (v := 0) C dMo_isIn_17 rfl ?_
    subst hR
    exact X_zret C hr rfl (Nat.le_refl _) (Nat.le_refl _) dMo_isIn_18 ⟨rfl, rfl, rfl⟩
  · rw [if_neg c1] at hR
    refine X_lload_n C dMo_isIn_6 rfl ?_
    refine X_lload C dMo_isIn_7 rfl ?_
    refine X_lcmp C dMo_isIn_9 ?_
    refine X_if_gt (tgt := 17) C dMo_isIn_10 (by decide) (fun c2 => ?_) (fun c2 => ?_)
    · rw [if_pos c2] at hR
      refine X_iconst (v := 0) C dMo_isIn_17 rfl ?_
      subst hR
      exact X_zret C hr rfl (Nat.le_refl _) (Nat.le_refl _) dMo_isIn_18 ⟨rfl, rfl, rfl⟩
    · rw [if_neg c2] at hR
      refine X_iconst (v := 1) C dMo_isIn_13 rfl ?_
      refine X_goto (tgt := 18) C dMo_isIn_14 (by decide) ?_
      subst hR
      exact X_zret C hr rfl (Nat.le_refl _) (Nat.le_refl _) dMo_isIn_18 ⟨rfl, rfl, rfl⟩
def Mo_machine_f (n : Nat)  (σ : mS) (τ : mL) : Option (Int32 × mS × mL) := bnd (su σ 0 0 ((0 : Int32))) (fun s1 => (if s1 1 0 = (3 : Int32) then some (((-2) : Int32), s1, τ) else bnd (su s1 1 0 ((s1 1 0) + ((1 : Int32)))) (fun s3 => some ((s3 1 0) - ((1 : Int32)), s3, τ))))
set_option maxRecDepth 100000 in
set_option maxHeartbeats 8000000 in
theorem Mo_machine_x {F : xF} {G : xG} {B : Nat} {M : xM} (C : xC F G B cMo_machine RMo 1 0 0 0 0) (hr : (xFM F).sig.returnType = (some .int)) {n : Nat} {σ : mS} {τ : mL} {R : Int32 × mS × mL} (hR : Mo_machine_f n σ τ = some R) : XM F G B (xZ F G B (mP M (some (.int R.1)) R.2.1 R.2.2) 0 0) 1 M σ τ 0 [(0, .ref (M.1))] [] := by
  unfold Mo_machine_f at hR
  refine XM_aload_n C dMo_machine_0 rfl ?_
  refine XM_iconst (v := 0) C dMo_machine_1 rfl ?_
  refine XM_put (k := 0) C rfl fwMo_124 rfl rfl rfl dMo_machine_2 ?_
  obtain ⟨s1, es1, hR⟩ := b_bnd hR
  rw [← es1]
  refine XM_aload_n C dMo_machine_5 rfl ?_
  refine XM_get (k := 1) (v := .int (s1 1 0)) C rfl fwMo_128 dMo_machine_6 ?_
  refine XM_iconst (v := 3) C dMo_machine_9 rfl ?_
  refine XM_icmp_ne (tgt := 16) C dMo_machine_10 (by decide) (fun c2 => ?_) (fun c2 => ?_)
  · rw [if_neg c2] at hR
    refine XM_aload_n C dMo_machine_16 rfl ?_
    refine XM_dup C dMo_machine_17 rfl ?_
    refine XM_get (k := 1) (v := .int (s1 1 0)) C rfl fwMo_128 dMo_machine_18 ?_
    refine XM_iconst (v := 1) C dMo_machine_21 rfl ?_
    refine XM_iadd C dMo_machine_22 ?_
    refine XM_put (k := 1) C rfl fwMo_128 rfl rfl rfl dMo_machine_23 ?_
    obtain ⟨s3, es3, hR⟩ := b_bnd hR
    rw [← es3]
    refine XM_aload_n C dMo_machine_26 rfl ?_
    refine XM_get (k := 1) (v := .int (s3 1 0)) C rfl fwMo_128 dMo_machine_27 ?_
    refine XM_iconst (v := 1) C dMo_machine_30 rfl ?_
    refine XM_isub C dMo_machine_31 ?_
    have hR := Option.some.inj hR
    subst hR
    exact XM_iret C hr dMo_machine_32 rfl rfl rfl
  · rw [if_pos c2] at hR
    refine XM_bipush (v := (-2)) C dMo_machine_13 (by decide) ?_
    have hR := Option.some.inj hR
    subst hR
    exact XM_iret C hr dMo_machine_15 rfl rfl rfl
theorem Mo_machine_c {l : Launch} {G : xG} {B : Nat} {M : xM} {n : Nat} {σ : mS} {τ : mL} {R : Int32 × mS × mL} (hR : Mo_machine_f n  σ τ = some R) : mCon l yMo_machine cMo_machine 1 (some .int) 0 0 G B M [.ref M.1] σ τ (some (.int R.1)) R.2.1 R.2.2 := mCon.of (by decide) (Nat.le_of_ble_eq_true rfl) (fun F e C hr => XM_sub (lv' := [(0, .ref (M.1))]) [0] rfl (Mo_machine_x C hr hR))
def Mo_isMachine_f (n : Nat) (x1 : Int32) (σ : mS) (τ : mL) : Option (Int32 × mS × mL) := (if x1 < 0 then some ((0 : Int32), σ, τ) else (if σ 1 0 ≤ x1 then some ((0 : Int32), σ, τ) else some ((1 : Int32), σ, τ)))
set_option maxRecDepth 100000 in
set_option maxHeartbeats 8000000 in
theorem Mo_isMachine_x {F : xF} {G : xG} {B : Nat} {M : xM} (C : xC F G B cMo_isMachine RMo 2 0 0 0 0) (hr : (xFM F).sig.returnType = (some .boolean)) {n : Nat} {x1 : Int32} {σ : mS} {τ : mL} {R : Int32 × mS × mL} (hR : Mo_isMachine_f n x1 σ τ = some R) : XM F G B (xZ F G B (mP M (some (.int R.1)) R.2.1 R.2.2) 0 0) 2 M σ τ 0 [(0, .ref (M.1)), (1, .int (x1))] [] := by
  unfold Mo_isMachine_f at hR
  refine XM_iload_n C dMo_isMachine_0 rfl ?_
  refine XM_if_lt (tgt := 16) C dMo_isMachine_1 (by decide) (fun c1 => ?_) (fun c1 => ?_)
  · rw [if_pos c1] at hR
    refine XM_iconst (v := 0) C dMo_isMachine_16 rfl ?_
    have hR := Option.some.inj hR
    subst hR
    exact XM_zret C hr rfl dMo_isMachine_17 rfl rfl rfl
  · rw [if_neg c1] at hR
    refine XM_iload_n C dMo_isMachine_4 rfl ?_
    refine XM_aload_n C dMo_isMachine_5 rfl ?_
    refine XM_get (k := 1) (v := .int (σ 1 0)) C rfl fwMo_128 dMo_isMachine_6 ?_
    refine XM_icmp_ge (tgt := 16) C dMo_isMachine_9 (by decide) (fun c2 => ?_) (fun c2 => ?_)
    · rw [if_pos c2] at hR
      refine XM_iconst (v := 0) C dMo_isMachine_16 rfl ?_
      have hR := Option.some.inj hR
      subst hR
      exact XM_zret C hr rfl dMo_isMachine_17 rfl rfl rfl
    · rw [if_neg c2] at hR
      refine XM_iconst (v := 1) C dMo_isMachine_12 rfl ?_
      refine XM_goto (tgt := 17) C dMo_isMachine_13 (by decide) ?_
      have hR := Option.some.inj hR
      subst hR
      exact XM_zret C hr rfl dMo_isMachine_17 rfl rfl rfl
theorem Mo_isMachine_c {l : Launch} {G : xG} {B : Nat} {M : xM} {n : Nat} {x1 : Int32} {σ : mS} {τ : mL} {R : Int32 × mS × mL} (hR : Mo_isMachine_f n x1 σ τ = some R) : mCon l yMo_isMachine cMo_isMachine 2 (some .boolean) 0 0 G B M [.ref M.1, .int x1] σ τ (some (.int R.1)) R.2.1 R.2.2 := mCon.of (by decide) (Nat.le_of_ble_eq_true rfl) (fun F e C hr => XM_sub (lv' := [(0, .ref (M.1)), (1, .int (x1))]) [0, 1] rfl (Mo_isMachine_x C hr hR))
def Mo_place_f (n : Nat) (x1 : Int32) (σ : mS) (τ : mL) : Option (Int32 × mS × mL) := bnd (su σ 0 0 ((0 : Int32))) (fun s1 => obd (Mo_isMachine_f n (x1) s1 τ) (fun r2 => (if r2.1 = 0 then some (((-1) : Int32), r2.2.1, r2.2.2) else (if xin (x1) 3 = true then (if r2.2.1 2 (Int32.toNatClampNeg (x1)) = (6 : Int32) then some (((-2) : Int32), r2.2.1, r2.2.2) else (if xin (x1) 3 = true then (if xin ((((6 : Int32)) * (x1)) + (r2.2.1 2 (Int32.toNatClampNeg (x1)))) 18 = true then bnd (su r2.2.1 4 (Int32.toNatClampNeg ((((6 : Int32)) * (x1)) + (r2.2.1 2 (Int32.toNatClampNeg (x1))))) ((0 : Int32))) (fun s8 => (if xin (x1) 3 = true then (if xin (x1) 3 = true then bnd (su s8 2 (Int32.toNatClampNeg (x1)) ((s8 2 (Int32.toNatClampNeg (x1))) + ((1 : Int32)))) (fun s11 => (if xin (x1) 3 = true then some ((s11 2 (Int32.toNatClampNeg (x1))) - ((1 : Int32)), s11, r2.2.2) else none)) else none) else none)) else none) else none)) else none))))
set_option maxRecDepth 100000 in
set_option maxHeartbeats 8000000 in
theorem Mo_place_x {F : xF} {G : xG} {B : Nat} {M : xM} (C : xC F G B cMo_place RMo 2 1 21 0 0) (hr : (xFM F).sig.returnType = (some .int)) {n : Nat} {x1 : Int32} {σ : mS} {τ : mL} {R : Int32 × mS × mL} (hR : Mo_place_f n x1 σ τ = some R) : XM F G B (xZ F G B (mP M (some (.int R.1)) R.2.1 R.2.2) 0 0) 2 M σ τ 0 [(0, .ref (M.1)), (1, .int (x1))] [] := by
  unfold Mo_place_f at hR
  refine XM_aload_n C dMo_place_0 rfl ?_
  refine XM_iconst (v := 0) C dMo_place_1 rfl ?_
  refine XM_put (k := 0) C rfl fwMo_124 rfl rfl rfl dMo_place_2 ?_
  obtain ⟨s1, es1, hR⟩ := b_bnd hR
  rw [← es1]
  refine XM_aload_n C dMo_place_5 rfl ?_
  refine XM_iload_n C dMo_place_6 rfl ?_
  obtain ⟨r2, hr2, hR⟩ := o_bind hR
  refine XM_callVi (As := [.int (x1)]) (rest := []) C (Mo_isMachine_c hr2) wMo_131 ⟨by decide, by decide⟩ rfl rfl (Nat.le_of_ble_eq_true rfl) dMo_place_7 ?_
  refine XM_if_ne (tgt := 15) C dMo_place_10 (by decide) (fun c3 => ?_) (fun c3 => ?_)
  · rw [if_neg c3] at hR
    refine XM_aload_n C dMo_place_15 rfl ?_
    refine XM_get (k := 2) (v := .ref (M.2.1 2)) C rfl fwMo_7 dMo_place_16 ?_
    refine XM_iload_n C dMo_place_19 rfl ?_
    obtain ⟨q4, hR⟩ := o_if hR
    refine XM_iald (k := 2) (n := 3) C rfl (xin_vp q4) dMo_place_20 ?_
    refine XM_bipush (v := 6) C dMo_place_21 (by decide) ?_
    refine XM_icmp_ne (tgt := 29) C dMo_place_23 (by decide) (fun c5 => ?_) (fun c5 => ?_)
    · rw [if_neg c5] at hR
      refine XM_aload_n C dMo_place_29 rfl ?_
      refine XM_get (k := 4) (v := .ref (M.2.1 4)) C rfl fwMo_16 dMo_place_30 ?_
      refine XM_bipush (v := 6) C dMo_place_33 (by decide) ?_
      refine XM_iload_n C dMo_place_35 rfl ?_
      refine XM_imul C dMo_place_36 ?_
      refine XM_aload_n C dMo_place_37 rfl ?_
      refine XM_get (k := 2) (v := .ref (M.2.1 2)) C rfl fwMo_7 dMo_place_38 ?_
      refine XM_iload_n C dMo_place_41 rfl ?_
      obtain ⟨q6, hR⟩ := o_if hR
      refine XM_iald (k := 2) (n := 3) C rfl (xin_vp q6) dMo_place_42 ?_
      refine XM_iadd C dMo_place_43 ?_
      refine XM_iconst (v := 0) C dMo_place_44 rfl ?_
      obtain ⟨q7, hR⟩ := o_if hR
      refine XM_iast (k := 4) (n := 18) C rfl (xin_vp q7) dMo_place_45 ?_
      obtain ⟨s8, es8, hR⟩ := b_bnd hR
      rw [← es8]
      refine XM_aload_n C dMo_place_46 rfl ?_
      refine XM_get (k := 2) (v := .ref (M.2.1 2)) C rfl fwMo_7 dMo_place_47 ?_
      refine XM_iload_n C dMo_place_50 rfl ?_
      refine XM_dup2 C dMo_place_51 rfl rfl ?_
      obtain ⟨q9, hR⟩ := o_if hR
      refine XM_iald (k := 2) (n := 3) C rfl (xin_vp q9) dMo_place_52 ?_
      refine XM_iconst (v := 1) C dMo_place_53 rfl ?_
      refine XM_iadd C dMo_place_54 ?_
      obtain ⟨q10, hR⟩ := o_if hR
      refine XM_iast (k := 2) (n := 3) C rfl (xin_vp q10) dMo_place_55 ?_
      obtain ⟨s11, es11, hR⟩ := b_bnd hR
      rw [← es11]
      refine XM_aload_n C dMo_place_56 rfl ?_
      refine XM_get (k := 2) (v := .ref (M.2.1 2)) C rfl fwMo_7 dMo_place_57 ?_
      refine XM_iload_n C dMo_place_60 rfl ?_
      obtain ⟨q12, hR⟩ := o_if hR
      refine XM_iald (k := 2) (n := 3) C rfl (xin_vp q12) dMo_place_61 ?_
      refine XM_iconst (v := 1) C dMo_place_62 rfl ?_
      refine XM_isub C dMo_place_63 ?_
      have hR := Option.some.inj hR
      subst hR
      exact XM_iret C hr dMo_place_64 rfl rfl rfl
    · rw [if_pos c5] at hR
      refine XM_bipush (v := (-2)) C dMo_place_26 (by decide) ?_
      have hR := Option.some.inj hR
      subst hR
      exact XM_iret C hr dMo_place_28 rfl rfl rfl
  · rw [if_pos c3] at hR
    refine XM_iconst (v := (-1)) C dMo_place_13 rfl ?_
    have hR := Option.some.inj hR
    subst hR
    exact XM_iret C hr dMo_place_14 rfl rfl rfl
theorem Mo_place_c {l : Launch} {G : xG} {B : Nat} {M : xM} {n : Nat} {x1 : Int32} {σ : mS} {τ : mL} {R : Int32 × mS × mL} (hR : Mo_place_f n x1 σ τ = some R) : mCon l yMo_place cMo_place 2 (some .int) 1 21 G B M [.ref M.1, .int x1] σ τ (some (.int R.1)) R.2.1 R.2.2 := mCon.of (by decide) (Nat.le_of_ble_eq_true rfl) (fun F e C hr => XM_sub (lv' := [(0, .ref (M.1)), (1, .int (x1))]) [0, 1] rfl (Mo_place_x C hr hR))
def Mo_isPlace_f (n : Nat) (x1 : Int32) (x2 : Int32) (σ : mS) (τ : mL) : Option (Int32 × mS × mL) := obd (Mo_isMachine_f n (x1) σ τ) (fun r1 => (if r1.1 = 0 then some ((0 : Int32), r1.2.1, r1.2.2) else (if x2 < 0 then some ((0 : Int32), r1.2.1, r1.2.2) else (if xin (x1) 3 = true then (if r1.2.1 2 (Int32.toNatClampNeg (x1)) ≤ x2 then some ((0 : Int32), r1.2.1, r1.2.2) else some ((1 : Int32), r1.2.1, r1.2.2)) else none))))
set_option maxRecDepth 100000 in
set_option maxHeartbeats 8000000 in
theorem Mo_isPlace_x {F : xF} {G : xG} {B : Nat} {M : xM} (C : xC F G B cMo_isPlace RMo 3 1 21 0 0) (hr : (xFM F).sig.returnType = (some .boolean)) {n : Nat} {x1 x2 : Int32} {σ : mS} {τ : mL} {R : Int32 × mS × mL} (hR : Mo_isPlace_f n x1 x2 σ τ = some R) : XM F G B (xZ F G B (mP M (some (.int R.1)) R.2.1 R.2.2) 0 0) 3 M σ τ 0 [(0, .ref (M.1)), (1, .int (x1)), (2, .int (x2))] [] := by
  unfold Mo_isPlace_f at hR
  refine XM_aload_n C dMo_isPlace_0 rfl ?_
  refine XM_iload_n C dMo_isPlace_1 rfl ?_
  obtain ⟨r1, hr1, hR⟩ := o_bind hR
  refine XM_callVi (As := [.int (x1)]) (rest := []) C (Mo_isMachine_c hr1) wMo_131 ⟨by decide, by decide⟩ rfl rfl (Nat.le_of_ble_eq_true rfl) dMo_isPlace_2 ?_
  refine XM_if_eq (tgt := 26) C dMo_isPlace_5 (by decide) (fun c2 => ?_) (fun c2 => ?_)
  · rw [if_pos c2] at hR
    refine XM_iconst (v := 0) C dMo_isPlace_26 rfl ?_
    have hR := Option.some.inj hR
    subst hR
    exact XM_zret C hr rfl dMo_isPlace_27 rfl rfl rfl
  · rw [if_neg c2] at hR
    refine XM_iload_n C dMo_isPlace_8 rfl ?_
    refine XM_if_lt (tgt := 26) C dMo_isPlace_9 (by decide) (fun c3 => ?_) (fun c3 => ?_)
    · rw [if_pos c3] at hR
      refine XM_iconst (v := 0) C dMo_isPlace_26 rfl ?_
      have hR := Option.some.inj hR
      subst hR
      exact XM_zret C hr rfl dMo_isPlace_27 rfl rfl rfl
    · rw [if_neg c3] at hR
      refine XM_iload_n C dMo_isPlace_12 rfl ?_
      refine XM_aload_n C dMo_isPlace_13 rfl ?_
      refine XM_get (k := 2) (v := .ref (M.2.1 2)) C rfl fwMo_7 dMo_isPlace_14 ?_
      refine XM_iload_n C dMo_isPlace_17 rfl ?_
      obtain ⟨q4, hR⟩ := o_if hR
      refine XM_iald (k := 2) (n := 3) C rfl (xin_vp q4) dMo_isPlace_18 ?_
      refine XM_icmp_ge (tgt := 26) C dMo_isPlace_19 (by decide) (fun c5 => ?_) (fun c5 => ?_)
      · rw [if_pos c5] at hR
        refine XM_iconst (v := 0) C dMo_isPlace_26 rfl ?_
        have hR := Option.some.inj hR
        subst hR
        exact XM_zret C hr rfl dMo_isPlace_27 rfl rfl rfl
      · rw [if_neg c5] at hR
        refine XM_iconst (v := 1) C dMo_isPlace_22 rfl ?_
        refine XM_goto (tgt := 27) C dMo_isPlace_23 (by decide) ?_
        have hR := Option.some.inj hR
        subst hR
        exact XM_zret C hr rfl dMo_isPlace_27 rfl rfl rfl
theorem Mo_isPlace_c {l : Launch} {G : xG} {B : Nat} {M : xM} {n : Nat} {x1 x2 : Int32} {σ : mS} {τ : mL} {R : Int32 × mS × mL} (hR : Mo_isPlace_f n x1 x2 σ τ = some R) : mCon l yMo_isPlace cMo_isPlace 3 (some .boolean) 1 21 G B M [.ref M.1, .int x1, .int x2] σ τ (some (.int R.1)) R.2.1 R.2.2 := mCon.of (by decide) (Nat.le_of_ble_eq_true rfl) (fun F e C hr => XM_sub (lv' := [(0, .ref (M.1)), (1, .int (x1)), (2, .int (x2))]) [0, 1, 2] rfl (Mo_isPlace_x C hr hR))
def Mo_isWay_f (n : Nat) (x1 : Int32) (x2 : Int32) (σ : mS) (τ : mL) : Option (Int32 × mS × mL) := obd (Mo_isMachine_f n (x1) σ τ) (fun r1 => (if r1.1 = 0 then some ((0 : Int32), r1.2.1, r1.2.2) else (if x2 < 0 then some ((0 : Int32), r1.2.1, r1.2.2) else (if xin (x1) 3 = true then (if r1.2.1 3 (Int32.toNatClampNeg (x1)) ≤ x2 then some ((0 : Int32), r1.2.1, r1.2.2) else some ((1 : Int32), r1.2.1, r1.2.2)) else none))))
set_option maxRecDepth 100000 in
set_option maxHeartbeats 8000000 in
theorem Mo_isWay_x {F : xF} {G : xG} {B : Nat} {M : xM} (C : xC F G B cMo_isWay RMo 3 1 21 0 0) (hr : (xFM F).sig.returnType = (some .boolean)) {n : Nat} {x1 x2 : Int32} {σ : mS} {τ : mL} {R : Int32 × mS × mL} (hR : Mo_isWay_f n x1 x2 σ τ = some R) : XM F G B (xZ F G B (mP M (some (.int R.1)) R.2.1 R.2.2) 0 0) 3 M σ τ 0 [(0, .ref (M.1)), (1, .int (x1)), (2, .int (x2))] [] := by
  unfold Mo_isWay_f at hR
  refine XM_aload_n C dMo_isWay_0 rfl ?_
  refine XM_iload_n C dMo_isWay_1 rfl ?_
  obtain ⟨r1, hr1, hR⟩ := o_bind hR
  refine XM_callVi (As := [.int (x1)]) (rest := []) C (Mo_isMachine_c hr1) wMo_131 ⟨by decide, by decide⟩ rfl rfl (Nat.le_of_ble_eq_true rfl) dMo_isWay_2 ?_
  refine XM_if_eq (tgt := 26) C dMo_isWay_5 (by decide) (fun c2 => ?_) (fun c2 => ?_)
  · rw [if_pos c2] at hR
    refine XM_iconst (v := 0) C dMo_isWay_26 rfl ?_
    have hR := Option.some.inj hR
    subst hR
    exact XM_zret C hr rfl dMo_isWay_27 rfl rfl rfl
  · rw [if_neg c2] at hR
    refine XM_iload_n C dMo_isWay_8 rfl ?_
    refine XM_if_lt (tgt := 26) C dMo_isWay_9 (by decide) (fun c3 => ?_) (fun c3 => ?_)
    · rw [if_pos c3] at hR
      refine XM_iconst (v := 0) C dMo_isWay_26 rfl ?_
      have hR := Option.some.inj hR
      subst hR
      exact XM_zret C hr rfl dMo_isWay_27 rfl rfl rfl
    · rw [if_neg c3] at hR
      refine XM_iload_n C dMo_isWay_12 rfl ?_
      refine XM_aload_n C dMo_isWay_13 rfl ?_
      refine XM_get (k := 3) (v := .ref (M.2.1 3)) C rfl fwMo_13 dMo_isWay_14 ?_
      refine XM_iload_n C dMo_isWay_17 rfl ?_
      obtain ⟨q4, hR⟩ := o_if hR
      refine XM_iald (k := 3) (n := 3) C rfl (xin_vp q4) dMo_isWay_18 ?_
      refine XM_icmp_ge (tgt := 26) C dMo_isWay_19 (by decide) (fun c5 => ?_) (fun c5 => ?_)
      · rw [if_pos c5] at hR
        refine XM_iconst (v := 0) C dMo_isWay_26 rfl ?_
        have hR := Option.some.inj hR
        subst hR
        exact XM_zret C hr rfl dMo_isWay_27 rfl rfl rfl
      · rw [if_neg c5] at hR
        refine XM_iconst (v := 1) C dMo_isWay_22 rfl ?_
        refine XM_goto (tgt := 27) C dMo_isWay_23 (by decide) ?_
        have hR := Option.some.inj hR
        subst hR
        exact XM_zret C hr rfl dMo_isWay_27 rfl rfl rfl
theorem Mo_isWay_c {l : Launch} {G : xG} {B : Nat} {M : xM} {n : Nat} {x1 x2 : Int32} {σ : mS} {τ : mL} {R : Int32 × mS × mL} (hR : Mo_isWay_f n x1 x2 σ τ = some R) : mCon l yMo_isWay cMo_isWay 3 (some .boolean) 1 21 G B M [.ref M.1, .int x1, .int x2] σ τ (some (.int R.1)) R.2.1 R.2.2 := mCon.of (by decide) (Nat.le_of_ble_eq_true rfl) (fun F e C hr => XM_sub (lv' := [(0, .ref (M.1)), (1, .int (x1)), (2, .int (x2))]) [0, 1, 2] rfl (Mo_isWay_x C hr hR))
def Mo_boundOf_f (x0 : Int32) (x1 : Int32) : Int32 := (if x1 = 0 then (((2 : Int32)) * (x0)) + ((1 : Int32)) else ((2 : Int32)) * (x0))
set_option maxRecDepth 100000 in
set_option maxHeartbeats 4000000 in
theorem Mo_boundOf_c {l : Launch} {G : xG} {B : Nat} (x0 : Int32) (x1 : Int32) : pCon l yMo_boundOf cMo_boundOf 2 (some .int) 0 0 G B [.int (x0), .int (x1)] (some (.int (Mo_boundOf_f x0 x1))) := by
  refine pCon.of (by decide) (Nat.le_of_ble_eq_true rfl) (fun F h sz e C hr => ?_)
  subst e
  obtain ⟨R, hR⟩ : ∃ R, Mo_boundOf_f x0 x1 = R := ⟨_, rfl⟩
  rw [hR]
  unfold Mo_boundOf_f at hR
  refine X_sub (lv' := [(0, .int (x0)), (1, .int (x1))]) [0, 1] rfl ?_
  refine X_iload_n C dMo_boundOf_0 rfl ?_
  refine X_if_eq (tgt := 10) C dMo_boundOf_1 (by decide) (fun c1 => ?_) (fun c1 => ?_)
  · rw [if_pos c1] at hR
    refine X_iconst (v := 2) C dMo_boundOf_10 rfl ?_
    refine X_iload_n C dMo_boundOf_11 rfl ?_
    refine X_imul C dMo_boundOf_12 ?_
    refine X_iconst (v := 1) C dMo_boundOf_13 rfl ?_
    refine X_iadd C dMo_boundOf_14 ?_
    subst hR
    exact X_iret C hr (Nat.le_refl _) (Nat.le_refl _) dMo_boundOf_15 ⟨rfl, rfl, rfl⟩
  · rw [if_neg c1] at hR
    refine X_iconst (v := 2) C dMo_boundOf_4 rfl ?_
    refine X_iload_n C dMo_boundOf_5 rfl ?_
    refine X_imul C dMo_boundOf_6 ?_
    refine X_goto (tgt := 15) C dMo_boundOf_7 (by decide) ?_
    subst hR
    exact X_iret C hr (Nat.le_refl _) (Nat.le_refl _) dMo_boundOf_15 ⟨rfl, rfl, rfl⟩
def Mo_limit_f (n : Nat) (x1 : Int32) (x2 : Int32) (x3 : Int32) (x4 : Int32) (x5 : Int32) (σ : mS) (τ : mL) : Option (Int32 × mS × mL) := bnd (su σ 0 0 ((0 : Int32))) (fun s1 => obd (Mo_isPlace_f n (x1) (x2) s1 τ) (fun r2 => (if r2.1 = 0 then some (((-1) : Int32), r2.2.1, r2.2.2) else (if Mo_isIn_f (Int32.toInt64 (x3)) ((1 : Int64)) ((3 : Int64)) = 0 then some (((-1) : Int32), r2.2.1, r2.2.2) else (if Mo_isIn_f (Int32.toInt64 (x4)) ((0 : Int64)) ((100 : Int64)) = 0 then some (((-1) : Int32), r2.2.1, r2.2.2) else (if xin ((((6 : Int32)) * (x1)) + (x2)) 18 = true then (if r2.2.1 4 (Int32.toNatClampNeg ((((6 : Int32)) * (x1)) + (x2))) = (2 : Int32) then some (((-2) : Int32), r2.2.1, r2.2.2) else (if xin ((((6 : Int32)) * (x1)) + (x2)) 18 = true then (if xin ((((2 : Int32)) * ((((6 : Int32)) * (x1)) + (x2))) + (r2.2.1 4 (Int32.toNatClampNeg ((((6 : Int32)) * (x1)) + (x2))))) 36 = true then bnd (su r2.2.1 5 (Int32.toNatClampNeg ((((2 : Int32)) * ((((6 : Int32)) * (x1)) + (x2))) + (r2.2.1 4 (Int32.toNatClampNeg ((((6 : Int32)) * (x1)) + (x2)))))) (x3)) (fun s10 => (if xin ((((6 : Int32)) * (x1)) + (x2)) 18 = true then (if xin ((((2 : Int32)) * ((((6 : Int32)) * (x1)) + (x2))) + (s10 4 (Int32.toNatClampNeg ((((6 : Int32)) * (x1)) + (x2))))) 36 = true then bnd (su s10 6 (Int32.toNatClampNeg ((((2 : Int32)) * ((((6 : Int32)) * (x1)) + (x2))) + (s10 4 (Int32.toNatClampNeg ((((6 : Int32)) * (x1)) + (x2)))))) (Mo_boundOf_f (x4) (x5))) (fun s13 => (if xin ((((6 : Int32)) * (x1)) + (x2)) 18 = true then (if xin ((((6 : Int32)) * (x1)) + (x2)) 18 = true then bnd (su s13 4 (Int32.toNatClampNeg ((((6 : Int32)) * (x1)) + (x2))) ((s13 4 (Int32.toNatClampNeg ((((6 : Int32)) * (x1)) + (x2)))) + ((1 : Int32)))) (fun s16 => (if xin ((((6 : Int32)) * (x1)) + (x2)) 18 = true then some (s16 4 (Int32.toNatClampNeg ((((6 : Int32)) * (x1)) + (x2))), s16, r2.2.2) else none)) else none) else none)) else none) else none)) else none) else none)) else none))))))
set_option maxRecDepth 100000 in
set_option maxHeartbeats 8000000 in
theorem Mo_limit_x {F : xF} {G : xG} {B : Nat} {M : xM} (C : xC F G B cMo_limit RMo 7 2 43 0 0) (hr : (xFM F).sig.returnType = (some .int)) {n : Nat} {x1 x2 x3 x4 x5 : Int32} {σ : mS} {τ : mL} {R : Int32 × mS × mL} (hR : Mo_limit_f n x1 x2 x3 x4 x5 σ τ = some R) : XM F G B (xZ F G B (mP M (some (.int R.1)) R.2.1 R.2.2) 0 0) 7 M σ τ 0 [(0, .ref (M.1)), (1, .int (x1)), (2, .int (x2)), (3, .int (x3)), (4, .int (x4)), (5, .int (x5))] [] := by
  unfold Mo_limit_f at hR
  refine XM_aload_n C dMo_limit_0 rfl ?_
  refine XM_iconst (v := 0) C dMo_limit_1 rfl ?_
  refine XM_put (k := 0) C rfl fwMo_124 rfl rfl rfl dMo_limit_2 ?_
  obtain ⟨s1, es1, hR⟩ := b_bnd hR
  rw [← es1]
  refine XM_aload_n C dMo_limit_5 rfl ?_
  refine XM_iload_n C dMo_limit_6 rfl ?_
  refine XM_iload_n C dMo_limit_7 rfl ?_
  obtain ⟨r2, hr2, hR⟩ := o_bind hR
  refine XM_callVi (As := [.int (x1), .int (x2)]) (rest := []) C (Mo_isPlace_c hr2) wMo_135 ⟨by decide, by decide⟩ rfl rfl (Nat.le_of_ble_eq_true rfl) dMo_limit_8 ?_
  refine XM_if_eq (tgt := 39) C dMo_limit_11 (by decide) (fun c3 => ?_) (fun c3 => ?_)
  · rw [if_pos c3] at hR
    refine XM_iconst (v := (-1)) C dMo_limit_39 rfl ?_
    have hR := Option.some.inj hR
    subst hR
    exact XM_iret C hr dMo_limit_40 rfl rfl rfl
  · rw [if_neg c3] at hR
    refine XM_iload_n C dMo_limit_14 rfl ?_
    refine XM_i2l C dMo_limit_15 ?_
    refine XM_lconst (v := 1) C dMo_limit_16 rfl ?_
    refine XM_ldc2 (v := 3) C kMo_139 dMo_limit_17 ?_
    refine XM_callSi (As := [.long (Int32.toInt64 (x3)), .long ((1 : Int64)), .long ((3 : Int64))]) (rest := []) C (Mo_isIn_c (Int32.toInt64 (x3)) ((1 : Int64)) ((3 : Int64))) wMo_141 ⟨by decide, by decide⟩ rfl rfl (Nat.le_of_ble_eq_true rfl) dMo_limit_20 ?_
    refine XM_if_eq (tgt := 39) C dMo_limit_23 (by decide) (fun c4 => ?_) (fun c4 => ?_)
    · rw [if_pos c4] at hR
      refine XM_iconst (v := (-1)) C dMo_limit_39 rfl ?_
      have hR := Option.some.inj hR
      subst hR
      exact XM_iret C hr dMo_limit_40 rfl rfl rfl
    · rw [if_neg c4] at hR
      refine XM_iload C dMo_limit_26 rfl ?_
      refine XM_i2l C dMo_limit_28 ?_
      refine XM_lconst (v := 0) C dMo_limit_29 rfl ?_
      refine XM_ldc2 (v := 100) C kMo_145 dMo_limit_30 ?_
      refine XM_callSi (As := [.long (Int32.toInt64 (x4)), .long ((0 : Int64)), .long ((100 : Int64))]) (rest := []) C (Mo_isIn_c (Int32.toInt64 (x4)) ((0 : Int64)) ((100 : Int64))) wMo_141 ⟨by decide, by decide⟩ rfl rfl (Nat.le_of_ble_eq_true rfl) dMo_limit_33 ?_
      refine XM_if_ne (tgt := 41) C dMo_limit_36 (by decide) (fun c5 => ?_) (fun c5 => ?_)
      · rw [if_neg c5] at hR
        refine XM_bipush (v := 6) C dMo_limit_41 (by decide) ?_
        refine XM_iload_n C dMo_limit_43 rfl ?_
        refine XM_imul C dMo_limit_44 ?_
        refine XM_iload_n C dMo_limit_45 rfl ?_
        refine XM_iadd C dMo_limit_46 ?_
        refine XM_istore (lv' := [(6, .int ((((6 : Int32)) * (x1)) + (x2))), (0, .ref (M.1)), (1, .int (x1)), (2, .int (x2)), (3, .int (x3)), (4, .int (x4)), (5, .int (x5))]) C dMo_limit_47 (by decide) rfl ?_
        refine XM_aload_n C dMo_limit_49 rfl ?_
        refine XM_get (k := 4) (v := .ref (M.2.1 4)) C rfl fwMo_16 dMo_limit_50 ?_
        refine XM_iload C dMo_limit_53 rfl ?_
        obtain ⟨q6, hR⟩ := o_if hR
        refine XM_iald (k := 4) (n := 18) C rfl (xin_vp q6) dMo_limit_55 ?_
        refine XM_iconst (v := 2) C dMo_limit_56 rfl ?_
        refine XM_icmp_ne (tgt := 63) C dMo_limit_57 (by decide) (fun c7 => ?_) (fun c7 => ?_)
        · rw [if_neg c7] at hR
          refine XM_aload_n C dMo_limit_63 rfl ?_
          refine XM_get (k := 5) (v := .ref (M.2.1 5)) C rfl fwMo_19 dMo_limit_64 ?_
          refine XM_iconst (v := 2) C dMo_limit_67 rfl ?_
          refine XM_iload C dMo_limit_68 rfl ?_
          refine XM_imul C dMo_limit_70 ?_
          refine XM_aload_n C dMo_limit_71 rfl ?_
          refine XM_get (k := 4) (v := .ref (M.2.1 4)) C rfl fwMo_16 dMo_limit_72 ?_
          refine XM_iload C dMo_limit_75 rfl ?_
          obtain ⟨q8, hR⟩ := o_if hR
          refine XM_iald (k := 4) (n := 18) C rfl (xin_vp q8) dMo_limit_77 ?_
          refine XM_iadd C dMo_limit_78 ?_
          refine XM_iload_n C dMo_limit_79 rfl ?_
          obtain ⟨q9, hR⟩ := o_if hR
          refine XM_iast (k := 5) (n := 36) C rfl (xin_vp q9) dMo_limit_80 ?_
          obtain ⟨s10, es10, hR⟩ := b_bnd hR
          rw [← es10]
          refine XM_aload_n C dMo_limit_81 rfl ?_
          refine XM_get (k := 6) (v := .ref (M.2.1 6)) C rfl fwMo_22 dMo_limit_82 ?_
          refine XM_iconst (v := 2) C dMo_limit_85 rfl ?_
          refine XM_iload C dMo_limit_86 rfl ?_
          refine XM_imul C dMo_limit_88 ?_
          refine XM_aload_n C dMo_limit_89 rfl ?_
          refine XM_get (k := 4) (v := .ref (M.2.1 4)) C rfl fwMo_16 dMo_limit_90 ?_
          refine XM_iload C dMo_limit_93 rfl ?_
          obtain ⟨q11, hR⟩ := o_if hR
          refine XM_iald (k := 4) (n := 18) C rfl (xin_vp q11) dMo_limit_95 ?_
          refine XM_iadd C dMo_limit_96 ?_
          refine XM_iload C dMo_limit_97 rfl ?_
          refine XM_iload C dMo_limit_99 rfl ?_
          refine XM_callSi (As := [.int (x4), .int (x5)]) (rest := [.int ((((2 : Int32)) * ((((6 : Int32)) * (x1)) + (x2))) + (s10 4 (Int32.toNatClampNeg ((((6 : Int32)) * (x1)) + (x2))))), .ref (M.2.1 6)]) C (Mo_boundOf_c (x4) (x5)) wMo_147 ⟨by decide, by decide⟩ rfl rfl (Nat.le_of_ble_eq_true rfl) dMo_limit_101 ?_
          obtain ⟨q12, hR⟩ := o_if hR
          refine XM_iast (k := 6) (n := 36) C rfl (xin_vp q12) dMo_limit_104 ?_
          obtain ⟨s13, es13, hR⟩ := b_bnd hR
          rw [← es13]
          refine XM_aload_n C dMo_limit_105 rfl ?_
          refine XM_get (k := 4) (v := .ref (M.2.1 4)) C rfl fwMo_16 dMo_limit_106 ?_
          refine XM_iload C dMo_limit_109 rfl ?_
          refine XM_dup2 C dMo_limit_111 rfl rfl ?_
          obtain ⟨q14, hR⟩ := o_if hR
          refine XM_iald (k := 4) (n := 18) C rfl (xin_vp q14) dMo_limit_112 ?_
          refine XM_iconst (v := 1) C dMo_limit_113 rfl ?_
          refine XM_iadd C dMo_limit_114 ?_
          obtain ⟨q15, hR⟩ := o_if hR
          refine XM_iast (k := 4) (n := 18) C rfl (xin_vp q15) dMo_limit_115 ?_
          obtain ⟨s16, es16, hR⟩ := b_bnd hR
          rw [← es16]
          refine XM_aload_n C dMo_limit_116 rfl ?_
          refine XM_get (k := 4) (v := .ref (M.2.1 4)) C rfl fwMo_16 dMo_limit_117 ?_
          refine XM_iload C dMo_limit_120 rfl ?_
          obtain ⟨q17, hR⟩ := o_if hR
          refine XM_iald (k := 4) (n := 18) C rfl (xin_vp q17) dMo_limit_122 ?_
          have hR := Option.some.inj hR
          subst hR
          exact XM_iret C hr dMo_limit_123 rfl rfl rfl
        · rw [if_pos c7] at hR
          refine XM_bipush (v := (-2)) C dMo_limit_60 (by decide) ?_
          have hR := Option.some.inj hR
          subst hR
          exact XM_iret C hr dMo_limit_62 rfl rfl rfl
      · rw [if_pos c5] at hR
        refine XM_iconst (v := (-1)) C dMo_limit_39 rfl ?_
        have hR := Option.some.inj hR
        subst hR
        exact XM_iret C hr dMo_limit_40 rfl rfl rfl
theorem Mo_limit_c {l : Launch} {G : xG} {B : Nat} {M : xM} {n : Nat} {x1 x2 x3 x4 x5 : Int32} {σ : mS} {τ : mL} {R : Int32 × mS × mL} (hR : Mo_limit_f n x1 x2 x3 x4 x5 σ τ = some R) : mCon l yMo_limit cMo_limit 7 (some .int) 2 43 G B M [.ref M.1, .int x1, .int x2, .int x3, .int x4, .int x5] σ τ (some (.int R.1)) R.2.1 R.2.2 := mCon.of (by decide) (Nat.le_of_ble_eq_true rfl) (fun F e C hr => XM_sub (lv' := [(0, .ref (M.1)), (1, .int (x1)), (2, .int (x2)), (3, .int (x3)), (4, .int (x4)), (5, .int (x5))]) [0, 1, 2, 3, 4, 5] rfl (Mo_limit_x C hr hR))
def Mo_way_f (n : Nat) (x1 : Int32) (x2 : Int32) (x3 : Int32) (x4 : Int32) (x5 : Int32) (σ : mS) (τ : mL) : Option (Int32 × mS × mL) := bnd (su σ 0 0 ((0 : Int32))) (fun s1 => obd (Mo_isPlace_f n (x1) (x2) s1 τ) (fun r2 => (if r2.1 = 0 then some (((-1) : Int32), r2.2.1, r2.2.2) else obd (Mo_isPlace_f n (x1) (x3) r2.2.1 r2.2.2) (fun r4 => (if r4.1 = 0 then some (((-1) : Int32), r4.2.1, r4.2.2) else (if Mo_isIn_f (Int32.toInt64 (x4)) (((-9) : Int64)) ((9 : Int64)) = 0 then some (((-1) : Int32), r4.2.1, r4.2.2) else (if Mo_isIn_f (Int32.toInt64 (x5)) ((0 : Int64)) ((7 : Int64)) = 0 then some (((-1) : Int32), r4.2.1, r4.2.2) else (if xin (x1) 3 = true then (if r4.2.1 3 (Int32.toNatClampNeg (x1)) = (12 : Int32) then some (((-2) : Int32), r4.2.1, r4.2.2) else (if xin (x1) 3 = true then (if xin ((((12 : Int32)) * (x1)) + (r4.2.1 3 (Int32.toNatClampNeg (x1)))) 36 = true then bnd (su r4.2.1 7 (Int32.toNatClampNeg ((((12 : Int32)) * (x1)) + (r4.2.1 3 (Int32.toNatClampNeg (x1))))) (x2)) (fun s12 => (if xin ((((12 : Int32)) * (x1)) + (r4.2.1 3 (Int32.toNatClampNeg (x1)))) 36 = true then bnd (su s12 8 (Int32.toNatClampNeg ((((12 : Int32)) * (x1)) + (r4.2.1 3 (Int32.toNatClampNeg (x1))))) (x3)) (fun s14 => (if xin ((((12 : Int32)) * (x1)) + (r4.2.1 3 (Int32.toNatClampNeg (x1)))) 36 = true then bnd (su s14 9 (Int32.toNatClampNeg ((((12 : Int32)) * (x1)) + (r4.2.1 3 (Int32.toNatClampNeg (x1))))) (x4)) (fun s16 => (if xin ((((12 : Int32)) * (x1)) + (r4.2.1 3 (Int32.toNatClampNeg (x1)))) 36 = true then bnd (su s16 10 (Int32.toNatClampNeg ((((12 : Int32)) * (x1)) + (r4.2.1 3 (Int32.toNatClampNeg (x1))))) (x5)) (fun s18 => (if xin ((((12 : Int32)) * (x1)) + (r4.2.1 3 (Int32.toNatClampNeg (x1)))) 36 = true then bnd (su s18 11 (Int32.toNatClampNeg ((((12 : Int32)) * (x1)) + (r4.2.1 3 (Int32.toNatClampNeg (x1))))) ((0 : Int32))) (fun s20 => (if xin (x1) 3 = true then (if xin (x1) 3 = true then bnd (su s20 3 (Int32.toNatClampNeg (x1)) ((s20 3 (Int32.toNatClampNeg (x1))) + ((1 : Int32)))) (fun s23 => (if xin (x1) 3 = true then some ((s23 3 (Int32.toNatClampNeg (x1))) - ((1 : Int32)), s23, r4.2.2) else none)) else none) else none)) else none)) else none)) else none)) else none)) else none) else none)) else none))))))))
set_option maxRecDepth 100000 in
set_option maxHeartbeats 8000000 in
theorem Mo_way_x {F : xF} {G : xG} {B : Nat} {M : xM} (C : xC F G B cMo_way RMo 7 2 43 0 0) (hr : (xFM F).sig.returnType = (some .int)) {n : Nat} {x1 x2 x3 x4 x5 : Int32} {σ : mS} {τ : mL} {R : Int32 × mS × mL} (hR : Mo_way_f n x1 x2 x3 x4 x5 σ τ = some R) : XM F G B (xZ F G B (mP M (some (.int R.1)) R.2.1 R.2.2) 0 0) 7 M σ τ 0 [(0, .ref (M.1)), (1, .int (x1)), (2, .int (x2)), (3, .int (x3)), (4, .int (x4)), (5, .int (x5))] [] := by
  unfold Mo_way_f at hR
  refine XM_aload_n C dMo_way_0 rfl ?_
  refine XM_iconst (v := 0) C dMo_way_1 rfl ?_
  refine XM_put (k := 0) C rfl fwMo_124 rfl rfl rfl dMo_way_2 ?_
  obtain ⟨s1, es1, hR⟩ := b_bnd hR
  rw [← es1]
  refine XM_aload_n C dMo_way_5 rfl ?_
  refine XM_iload_n C dMo_way_6 rfl ?_
  refine XM_iload_n C dMo_way_7 rfl ?_
  obtain ⟨r2, hr2, hR⟩ := o_bind hR
  refine XM_callVi (As := [.int (x1), .int (x2)]) (rest := []) C (Mo_isPlace_c hr2) wMo_135 ⟨by decide, by decide⟩ rfl rfl (Nat.le_of_ble_eq_true rfl) dMo_way_8 ?_
  refine XM_if_eq (tgt := 51) C dMo_way_11 (by decide) (fun c3 => ?_) (fun c3 => ?_)
  · rw [if_pos c3] at hR
    refine XM_iconst (v := (-1)) C dMo_way_51 rfl ?_
    have hR := Option.some.inj hR
    subst hR
    exact XM_iret C hr dMo_way_52 rfl rfl rfl
  · rw [if_neg c3] at hR
    refine XM_aload_n C dMo_way_14 rfl ?_
    refine XM_iload_n C dMo_way_15 rfl ?_
    refine XM_iload_n C dMo_way_16 rfl ?_
    obtain ⟨r4, hr4, hR⟩ := o_bind hR
    refine XM_callVi (As := [.int (x1), .int (x3)]) (rest := []) C (Mo_isPlace_c hr4) wMo_135 ⟨by decide, by decide⟩ rfl rfl (Nat.le_of_ble_eq_true rfl) dMo_way_17 ?_
    refine XM_if_eq (tgt := 51) C dMo_way_20 (by decide) (fun c5 => ?_) (fun c5 => ?_)
    · rw [if_pos c5] at hR
      refine XM_iconst (v := (-1)) C dMo_way_51 rfl ?_
      have hR := Option.some.inj hR
      subst hR
      exact XM_iret C hr dMo_way_52 rfl rfl rfl
    · rw [if_neg c5] at hR
      refine XM_iload C dMo_way_23 rfl ?_
      refine XM_i2l C dMo_way_25 ?_
      refine XM_ldc2 (v := (-9)) C kMo_151 dMo_way_26 ?_
      refine XM_ldc2 (v := 9) C kMo_153 dMo_way_29 ?_
      refine XM_callSi (As := [.long (Int32.toInt64 (x4)), .long (((-9) : Int64)), .long ((9 : Int64))]) (rest := []) C (Mo_isIn_c (Int32.toInt64 (x4)) (((-9) : Int64)) ((9 : Int64))) wMo_141 ⟨by decide, by decide⟩ rfl rfl (Nat.le_of_ble_eq_true rfl) dMo_way_32 ?_
      refine XM_if_eq (tgt := 51) C dMo_way_35 (by decide) (fun c6 => ?_) (fun c6 => ?_)
      · rw [if_pos c6] at hR
        refine XM_iconst (v := (-1)) C dMo_way_51 rfl ?_
        have hR := Option.some.inj hR
        subst hR
        exact XM_iret C hr dMo_way_52 rfl rfl rfl
      · rw [if_neg c6] at hR
        refine XM_iload C dMo_way_38 rfl ?_
        refine XM_i2l C dMo_way_40 ?_
        refine XM_lconst (v := 0) C dMo_way_41 rfl ?_
        refine XM_ldc2 (v := 7) C kMo_155 dMo_way_42 ?_
        refine XM_callSi (As := [.long (Int32.toInt64 (x5)), .long ((0 : Int64)), .long ((7 : Int64))]) (rest := []) C (Mo_isIn_c (Int32.toInt64 (x5)) ((0 : Int64)) ((7 : Int64))) wMo_141 ⟨by decide, by decide⟩ rfl rfl (Nat.le_of_ble_eq_true rfl) dMo_way_45 ?_
        refine XM_if_ne (tgt := 53) C dMo_way_48 (by decide) (fun c7 => ?_) (fun c7 => ?_)
        · rw [if_neg c7] at hR
          refine XM_aload_n C dMo_way_53 rfl ?_
          refine XM_get (k := 3) (v := .ref (M.2.1 3)) C rfl fwMo_13 dMo_way_54 ?_
          refine XM_iload_n C dMo_way_57 rfl ?_
          obtain ⟨q8, hR⟩ := o_if hR
          refine XM_iald (k := 3) (n := 3) C rfl (xin_vp q8) dMo_way_58 ?_
          refine XM_bipush (v := 12) C dMo_way_59 (by decide) ?_
          refine XM_icmp_ne (tgt := 67) C dMo_way_61 (by decide) (fun c9 => ?_) (fun c9 => ?_)
          · rw [if_neg c9] at hR
            refine XM_bipush (v := 12) C dMo_way_67 (by decide) ?_
            refine XM_iload_n C dMo_way_69 rfl ?_
            refine XM_imul C dMo_way_70 ?_
            refine XM_aload_n C dMo_way_71 rfl ?_
            refine XM_get (k := 3) (v := .ref (M.2.1 3)) C rfl fwMo_13 dMo_way_72 ?_
            refine XM_iload_n C dMo_way_75 rfl ?_
            obtain ⟨q10, hR⟩ := o_if hR
            refine XM_iald (k := 3) (n := 3) C rfl (xin_vp q10) dMo_way_76 ?_
            refine XM_iadd C dMo_way_77 ?_
            refine XM_istore (lv' := [(6, .int ((((12 : Int32)) * (x1)) + (r4.2.1 3 (Int32.toNatClampNeg (x1))))), (0, .ref (M.1)), (1, .int (x1)), (2, .int (x2)), (3, .int (x3)), (4, .int (x4)), (5, .int (x5))]) C dMo_way_78 (by decide) rfl ?_
            refine XM_aload_n C dMo_way_80 rfl ?_
            refine XM_get (k := 7) (v := .ref (M.2.1 7)) C rfl fwMo_25 dMo_way_81 ?_
            refine XM_iload C dMo_way_84 rfl ?_
            refine XM_iload_n C dMo_way_86 rfl ?_
            obtain ⟨q11, hR⟩ := o_if hR
            refine XM_iast (k := 7) (n := 36) C rfl (xin_vp q11) dMo_way_87 ?_
            obtain ⟨s12, es12, hR⟩ := b_bnd hR
            rw [← es12]
            refine XM_aload_n C dMo_way_88 rfl ?_
            refine XM_get (k := 8) (v := .ref (M.2.1 8)) C rfl fwMo_28 dMo_way_89 ?_
            refine XM_iload C dMo_way_92 rfl ?_
            refine XM_iload_n C dMo_way_94 rfl ?_
            obtain ⟨q13, hR⟩ := o_if hR
            refine XM_iast (k := 8) (n := 36) C rfl (xin_vp q13) dMo_way_95 ?_
            obtain ⟨s14, es14, hR⟩ := b_bnd hR
            rw [← es14]
            refine XM_aload_n C dMo_way_96 rfl ?_
            refine XM_get (k := 9) (v := .ref (M.2.1 9)) C rfl fwMo_31 dMo_way_97 ?_
            refine XM_iload C dMo_way_100 rfl ?_
            refine XM_iload C dMo_way_102 rfl ?_
            obtain ⟨q15, hR⟩ := o_if hR
            refine XM_iast (k := 9) (n := 36) C rfl (xin_vp q15) dMo_way_104 ?_
            obtain ⟨s16, es16, hR⟩ := b_bnd hR
            rw [← es16]
            refine XM_aload_n C dMo_way_105 rfl ?_
            refine XM_get (k := 10) (v := .ref (M.2.1 10)) C rfl fwMo_34 dMo_way_106 ?_
            refine XM_iload C dMo_way_109 rfl ?_
            refine XM_iload C dMo_way_111 rfl ?_
            obtain ⟨q17, hR⟩ := o_if hR
            refine XM_iast (k := 10) (n := 36) C rfl (xin_vp q17) dMo_way_113 ?_
            obtain ⟨s18, es18, hR⟩ := b_bnd hR
            rw [← es18]
            refine XM_aload_n C dMo_way_114 rfl ?_
            refine XM_get (k := 11) (v := .ref (M.2.1 11)) C rfl fwMo_37 dMo_way_115 ?_
            refine XM_iload C dMo_way_118 rfl ?_
            refine XM_iconst (v := 0) C dMo_way_120 rfl ?_
            obtain ⟨q19, hR⟩ := o_if hR
            refine XM_iast (k := 11) (n := 36) C rfl (xin_vp q19) dMo_way_121 ?_
            obtain ⟨s20, es20, hR⟩ := b_bnd hR
            rw [← es20]
            refine XM_aload_n C dMo_way_122 rfl ?_
            refine XM_get (k := 3) (v := .ref (M.2.1 3)) C rfl fwMo_13 dMo_way_123 ?_
            refine XM_iload_n C dMo_way_126 rfl ?_
            refine XM_dup2 C dMo_way_127 rfl rfl ?_
            obtain ⟨q21, hR⟩ := o_if hR
            refine XM_iald (k := 3) (n := 3) C rfl (xin_vp q21) dMo_way_128 ?_
            refine XM_iconst (v := 1) C dMo_way_129 rfl ?_
            refine XM_iadd C dMo_way_130 ?_
            obtain ⟨q22, hR⟩ := o_if hR
            refine XM_iast (k := 3) (n := 3) C rfl (xin_vp q22) dMo_way_131 ?_
            obtain ⟨s23, es23, hR⟩ := b_bnd hR
            rw [← es23]
            refine XM_aload_n C dMo_way_132 rfl ?_
            refine XM_get (k := 3) (v := .ref (M.2.1 3)) C rfl fwMo_13 dMo_way_133 ?_
            refine XM_iload_n C dMo_way_136 rfl ?_
            obtain ⟨q24, hR⟩ := o_if hR
            refine XM_iald (k := 3) (n := 3) C rfl (xin_vp q24) dMo_way_137 ?_
            refine XM_iconst (v := 1) C dMo_way_138 rfl ?_
            refine XM_isub C dMo_way_139 ?_
            have hR := Option.some.inj hR
            subst hR
            exact XM_iret C hr dMo_way_140 rfl rfl rfl
          · rw [if_pos c9] at hR
            refine XM_bipush (v := (-2)) C dMo_way_64 (by decide) ?_
            have hR := Option.some.inj hR
            subst hR
            exact XM_iret C hr dMo_way_66 rfl rfl rfl
        · rw [if_pos c7] at hR
          refine XM_iconst (v := (-1)) C dMo_way_51 rfl ?_
          have hR := Option.some.inj hR
          subst hR
          exact XM_iret C hr dMo_way_52 rfl rfl rfl
theorem Mo_way_c {l : Launch} {G : xG} {B : Nat} {M : xM} {n : Nat} {x1 x2 x3 x4 x5 : Int32} {σ : mS} {τ : mL} {R : Int32 × mS × mL} (hR : Mo_way_f n x1 x2 x3 x4 x5 σ τ = some R) : mCon l yMo_way cMo_way 7 (some .int) 2 43 G B M [.ref M.1, .int x1, .int x2, .int x3, .int x4, .int x5] σ τ (some (.int R.1)) R.2.1 R.2.2 := mCon.of (by decide) (Nat.le_of_ble_eq_true rfl) (fun F e C hr => XM_sub (lv' := [(0, .ref (M.1)), (1, .int (x1)), (2, .int (x2)), (3, .int (x3)), (4, .int (x4)), (5, .int (x5))]) [0, 1, 2, 3, 4, 5] rfl (Mo_way_x C hr hR))
def Mo_test_f (n : Nat) (x1 : Int32) (x2 : Int32) (x3 : Int32) (x4 : Int32) (x5 : Int32) (σ : mS) (τ : mL) : Option (Int32 × mS × mL) := bnd (su σ 0 0 ((0 : Int32))) (fun s1 => obd (Mo_isWay_f n (x1) (x2) s1 τ) (fun r2 => (if r2.1 = 0 then some (((-1) : Int32), r2.2.1, r2.2.2) else (if Mo_isIn_f (Int32.toInt64 (x3)) ((0 : Int64)) ((15 : Int64)) = 0 then some (((-1) : Int32), r2.2.1, r2.2.2) else (if (x3) / ((4 : Int32)) = (x3) - (x3) / ((4 : Int32)) * ((4 : Int32)) then some (((-1) : Int32), r2.2.1, r2.2.2) else (if Mo_isIn_f (Int32.toInt64 (x4)) (((-100) : Int64)) ((100 : Int64)) = 0 then some (((-1) : Int32), r2.2.1, r2.2.2) else (if xin ((((12 : Int32)) * (x1)) + (x2)) 36 = true then (if r2.2.1 11 (Int32.toNatClampNeg ((((12 : Int32)) * (x1)) + (x2))) = (3 : Int32) then some (((-2) : Int32), r2.2.1, r2.2.2) else (if xin ((((12 : Int32)) * (x1)) + (x2)) 36 = true then (if xin ((((3 : Int32)) * ((((12 : Int32)) * (x1)) + (x2))) + (r2.2.1 11 (Int32.toNatClampNeg ((((12 : Int32)) * (x1)) + (x2))))) 108 = true then bnd (su r2.2.1 12 (Int32.toNatClampNeg ((((3 : Int32)) * ((((12 : Int32)) * (x1)) + (x2))) + (r2.2.1 11 (Int32.toNatClampNeg ((((12 : Int32)) * (x1)) + (x2)))))) ((x3) / ((4 : Int32)))) (fun s11 => (if xin ((((12 : Int32)) * (x1)) + (x2)) 36 = true then (if xin ((((3 : Int32)) * ((((12 : Int32)) * (x1)) + (x2))) + (s11 11 (Int32.toNatClampNeg ((((12 : Int32)) * (x1)) + (x2))))) 108 = true then bnd (su s11 13 (Int32.toNatClampNeg ((((3 : Int32)) * ((((12 : Int32)) * (x1)) + (x2))) + (s11 11 (Int32.toNatClampNeg ((((12 : Int32)) * (x1)) + (x2)))))) ((x3) - (x3) / ((4 : Int32)) * ((4 : Int32)))) (fun s14 => (if xin ((((12 : Int32)) * (x1)) + (x2)) 36 = true then (if xin ((((3 : Int32)) * ((((12 : Int32)) * (x1)) + (x2))) + (s14 11 (Int32.toNatClampNeg ((((12 : Int32)) * (x1)) + (x2))))) 108 = true then bnd (su s14 14 (Int32.toNatClampNeg ((((3 : Int32)) * ((((12 : Int32)) * (x1)) + (x2))) + (s14 11 (Int32.toNatClampNeg ((((12 : Int32)) * (x1)) + (x2)))))) (Mo_boundOf_f (x4) (x5))) (fun s17 => (if xin ((((12 : Int32)) * (x1)) + (x2)) 36 = true then (if xin ((((12 : Int32)) * (x1)) + (x2)) 36 = true then bnd (su s17 11 (Int32.toNatClampNeg ((((12 : Int32)) * (x1)) + (x2))) ((s17 11 (Int32.toNatClampNeg ((((12 : Int32)) * (x1)) + (x2)))) + ((1 : Int32)))) (fun s20 => (if xin ((((12 : Int32)) * (x1)) + (x2)) 36 = true then some (s20 11 (Int32.toNatClampNeg ((((12 : Int32)) * (x1)) + (x2))), s20, r2.2.2) else none)) else none) else none)) else none) else none)) else none) else none)) else none) else none)) else none)))))))
set_option maxRecDepth 100000 in
set_option maxHeartbeats 8000000 in
theorem Mo_test_x {F : xF} {G : xG} {B : Nat} {M : xM} (C : xC F G B cMo_test RMo 7 2 43 0 0) (hr : (xFM F).sig.returnType = (some .int)) {n : Nat} {x1 x2 x3 x4 x5 : Int32} {σ : mS} {τ : mL} {R : Int32 × mS × mL} (hR : Mo_test_f n x1 x2 x3 x4 x5 σ τ = some R) : XM F G B (xZ F G B (mP M (some (.int R.1)) R.2.1 R.2.2) 0 0) 7 M σ τ 0 [(0, .ref (M.1)), (1, .int (x1)), (2, .int (x2)), (3, .int (x3)), (4, .int (x4)), (5, .int (x5))] [] := by
  unfold Mo_test_f at hR
  refine XM_aload_n C dMo_test_0 rfl ?_
  refine XM_iconst (v := 0) C dMo_test_1 rfl ?_
  refine XM_put (k := 0) C rfl fwMo_124 rfl rfl rfl dMo_test_2 ?_
  obtain ⟨s1, es1, hR⟩ := b_bnd hR
  rw [← es1]
  refine XM_aload_n C dMo_test_5 rfl ?_
  refine XM_iload_n C dMo_test_6 rfl ?_
  refine XM_iload_n C dMo_test_7 rfl ?_
  obtain ⟨r2, hr2, hR⟩ := o_bind hR
  refine XM_callVi (As := [.int (x1), .int (x2)]) (rest := []) C (Mo_isWay_c hr2) wMo_157 ⟨by decide, by decide⟩ rfl rfl (Nat.le_of_ble_eq_true rfl) dMo_test_8 ?_
  refine XM_if_eq (tgt := 50) C dMo_test_11 (by decide) (fun c3 => ?_) (fun c3 => ?_)
  · rw [if_pos c3] at hR
    refine XM_iconst (v := (-1)) C dMo_test_50 rfl ?_
    have hR := Option.some.inj hR
    subst hR
    exact XM_iret C hr dMo_test_51 rfl rfl rfl
  · rw [if_neg c3] at hR
    refine XM_iload_n C dMo_test_14 rfl ?_
    refine XM_i2l C dMo_test_15 ?_
    refine XM_lconst (v := 0) C dMo_test_16 rfl ?_
    refine XM_ldc2 (v := 15) C kMo_160 dMo_test_17 ?_
    refine XM_callSi (As := [.long (Int32.toInt64 (x3)), .long ((0 : Int64)), .long ((15 : Int64))]) (rest := []) C (Mo_isIn_c (Int32.toInt64 (x3)) ((0 : Int64)) ((15 : Int64))) wMo_141 ⟨by decide, by decide⟩ rfl rfl (Nat.le_of_ble_eq_true rfl) dMo_test_20 ?_
    refine XM_if_eq (tgt := 50) C dMo_test_23 (by decide) (fun c4 => ?_) (fun c4 => ?_)
    · rw [if_pos c4] at hR
      refine XM_iconst (v := (-1)) C dMo_test_50 rfl ?_
      have hR := Option.some.inj hR
      subst hR
      exact XM_iret C hr dMo_test_51 rfl rfl rfl
    · rw [if_neg c4] at hR
      refine XM_iload_n C dMo_test_26 rfl ?_
      refine XM_iconst (v := 4) C dMo_test_27 rfl ?_
      refine XM_idiv C dMo_test_28 (by decide) ?_
      refine XM_iload_n C dMo_test_29 rfl ?_
      refine XM_iconst (v := 4) C dMo_test_30 rfl ?_
      refine XM_irem C dMo_test_31 (by decide) ?_
      refine XM_icmp_eq (tgt := 50) C dMo_test_32 (by decide) (fun c5 => ?_) (fun c5 => ?_)
      · rw [if_pos c5] at hR
        refine XM_iconst (v := (-1)) C dMo_test_50 rfl ?_
        have hR := Option.some.inj hR
        subst hR
        exact XM_iret C hr dMo_test_51 rfl rfl rfl
      · rw [if_neg c5] at hR
        refine XM_iload C dMo_test_35 rfl ?_
        refine XM_i2l C dMo_test_37 ?_
        refine XM_ldc2 (v := (-100)) C kMo_162 dMo_test_38 ?_
        refine XM_ldc2 (v := 100) C kMo_145 dMo_test_41 ?_
        refine XM_callSi (As := [.long (Int32.toInt64 (x4)), .long (((-100) : Int64)), .long ((100 : Int64))]) (rest := []) C (Mo_isIn_c (Int32.toInt64 (x4)) (((-100) : Int64)) ((100 : Int64))) wMo_141 ⟨by decide, by decide⟩ rfl rfl (Nat.le_of_ble_eq_true rfl) dMo_test_44 ?_
        refine XM_if_ne (tgt := 52) C dMo_test_47 (by decide) (fun c6 => ?_) (fun c6 => ?_)
        · rw [if_neg c6] at hR
          refine XM_bipush (v := 12) C dMo_test_52 (by decide) ?_
          refine XM_iload_n C dMo_test_54 rfl ?_
          refine XM_imul C dMo_test_55 ?_
          refine XM_iload_n C dMo_test_56 rfl ?_
          refine XM_iadd C dMo_test_57 ?_
          refine XM_istore (lv' := [(6, .int ((((12 : Int32)) * (x1)) + (x2))), (0, .ref (M.1)), (1, .int (x1)), (2, .int (x2)), (3, .int (x3)), (4, .int (x4)), (5, .int (x5))]) C dMo_test_58 (by decide) rfl ?_
          refine XM_aload_n C dMo_test_60 rfl ?_
          refine XM_get (k := 11) (v := .ref (M.2.1 11)) C rfl fwMo_37 dMo_test_61 ?_
          refine XM_iload C dMo_test_64 rfl ?_
          obtain ⟨q7, hR⟩ := o_if hR
          refine XM_iald (k := 11) (n := 36) C rfl (xin_vp q7) dMo_test_66 ?_
          refine XM_iconst (v := 3) C dMo_test_67 rfl ?_
          refine XM_icmp_ne (tgt := 74) C dMo_test_68 (by decide) (fun c8 => ?_) (fun c8 => ?_)
          · rw [if_neg c8] at hR
            refine XM_aload_n C dMo_test_74 rfl ?_
            refine XM_get (k := 12) (v := .ref (M.2.1 12)) C rfl fwMo_40 dMo_test_75 ?_
            refine XM_iconst (v := 3) C dMo_test_78 rfl ?_
            refine XM_iload C dMo_test_79 rfl ?_
            refine XM_imul C dMo_test_81 ?_
            refine XM_aload_n C dMo_test_82 rfl ?_
            refine XM_get (k := 11) (v := .ref (M.2.1 11)) C rfl fwMo_37 dMo_test_83 ?_
            refine XM_iload C dMo_test_86 rfl ?_
            obtain ⟨q9, hR⟩ := o_if hR
            refine XM_iald (k := 11) (n := 36) C rfl (xin_vp q9) dMo_test_88 ?_
            refine XM_iadd C dMo_test_89 ?_
            refine XM_iload_n C dMo_test_90 rfl ?_
            refine XM_iconst (v := 4) C dMo_test_91 rfl ?_
            refine XM_idiv C dMo_test_92 (by decide) ?_
            obtain ⟨q10, hR⟩ := o_if hR
            refine XM_iast (k := 12) (n := 108) C rfl (xin_vp q10) dMo_test_93 ?_
            obtain ⟨s11, es11, hR⟩ := b_bnd hR
            rw [← es11]
            refine XM_aload_n C dMo_test_94 rfl ?_
            refine XM_get (k := 13) (v := .ref (M.2.1 13)) C rfl fwMo_43 dMo_test_95 ?_
            refine XM_iconst (v := 3) C dMo_test_98 rfl ?_
            refine XM_iload C dMo_test_99 rfl ?_
            refine XM_imul C dMo_test_101 ?_
            refine XM_aload_n C dMo_test_102 rfl ?_
            refine XM_get (k := 11) (v := .ref (M.2.1 11)) C rfl fwMo_37 dMo_test_103 ?_
            refine XM_iload C dMo_test_106 rfl ?_
            obtain ⟨q12, hR⟩ := o_if hR
            refine XM_iald (k := 11) (n := 36) C rfl (xin_vp q12) dMo_test_108 ?_
            refine XM_iadd C dMo_test_109 ?_
            refine XM_iload_n C dMo_test_110 rfl ?_
            refine XM_iconst (v := 4) C dMo_test_111 rfl ?_
            refine XM_irem C dMo_test_112 (by decide) ?_
            obtain ⟨q13, hR⟩ := o_if hR
            refine XM_iast (k := 13) (n := 108) C rfl (xin_vp q13) dMo_test_113 ?_
            obtain ⟨s14, es14, hR⟩ := b_bnd hR
            rw [← es14]
            refine XM_aload_n C dMo_test_114 rfl ?_
            refine XM_get (k := 14) (v := .ref (M.2.1 14)) C rfl fwMo_46 dMo_test_115 ?_
            refine XM_iconst (v := 3) C dMo_test_118 rfl ?_
            refine XM_iload C dMo_test_119 rfl ?_
            refine XM_imul C dMo_test_121 ?_
            refine XM_aload_n C dMo_test_122 rfl ?_
            refine XM_get (k := 11) (v := .ref (M.2.1 11)) C rfl fwMo_37 dMo_test_123 ?_
            refine XM_iload C dMo_test_126 rfl ?_
            obtain ⟨q15, hR⟩ := o_if hR
            refine XM_iald (k := 11) (n := 36) C rfl (xin_vp q15) dMo_test_128 ?_
            refine XM_iadd C dMo_test_129 ?_
            refine XM_iload C dMo_test_130 rfl ?_
            refine XM_iload C dMo_test_132 rfl ?_
            refine XM_callSi (As := [.int (x4), .int (x5)]) (rest := [.int ((((3 : Int32)) * ((((12 : Int32)) * (x1)) + (x2))) + (s14 11 (Int32.toNatClampNeg ((((12 : Int32)) * (x1)) + (x2))))), .ref (M.2.1 14)]) C (Mo_boundOf_c (x4) (x5)) wMo_147 ⟨by decide, by decide⟩ rfl rfl (Nat.le_of_ble_eq_true rfl) dMo_test_134 ?_
            obtain ⟨q16, hR⟩ := o_if hR
            refine XM_iast (k := 14) (n := 108) C rfl (xin_vp q16) dMo_test_137 ?_
            obtain ⟨s17, es17, hR⟩ := b_bnd hR
            rw [← es17]
            refine XM_aload_n C dMo_test_138 rfl ?_
            refine XM_get (k := 11) (v := .ref (M.2.1 11)) C rfl fwMo_37 dMo_test_139 ?_
            refine XM_iload C dMo_test_142 rfl ?_
            refine XM_dup2 C dMo_test_144 rfl rfl ?_
            obtain ⟨q18, hR⟩ := o_if hR
            refine XM_iald (k := 11) (n := 36) C rfl (xin_vp q18) dMo_test_145 ?_
            refine XM_iconst (v := 1) C dMo_test_146 rfl ?_
            refine XM_iadd C dMo_test_147 ?_
            obtain ⟨q19, hR⟩ := o_if hR
            refine XM_iast (k := 11) (n := 36) C rfl (xin_vp q19) dMo_test_148 ?_
            obtain ⟨s20, es20, hR⟩ := b_bnd hR
            rw [← es20]
            refine XM_aload_n C dMo_test_149 rfl ?_
            refine XM_get (k := 11) (v := .ref (M.2.1 11)) C rfl fwMo_37 dMo_test_150 ?_
            refine XM_iload C dMo_test_153 rfl ?_
            obtain ⟨q21, hR⟩ := o_if hR
            refine XM_iald (k := 11) (n := 36) C rfl (xin_vp q21) dMo_test_155 ?_
            have hR := Option.some.inj hR
            subst hR
            exact XM_iret C hr dMo_test_156 rfl rfl rfl
          · rw [if_pos c8] at hR
            refine XM_bipush (v := (-2)) C dMo_test_71 (by decide) ?_
            have hR := Option.some.inj hR
            subst hR
            exact XM_iret C hr dMo_test_73 rfl rfl rfl
        · rw [if_pos c6] at hR
          refine XM_iconst (v := (-1)) C dMo_test_50 rfl ?_
          have hR := Option.some.inj hR
          subst hR
          exact XM_iret C hr dMo_test_51 rfl rfl rfl
theorem Mo_test_c {l : Launch} {G : xG} {B : Nat} {M : xM} {n : Nat} {x1 x2 x3 x4 x5 : Int32} {σ : mS} {τ : mL} {R : Int32 × mS × mL} (hR : Mo_test_f n x1 x2 x3 x4 x5 σ τ = some R) : mCon l yMo_test cMo_test 7 (some .int) 2 43 G B M [.ref M.1, .int x1, .int x2, .int x3, .int x4, .int x5] σ τ (some (.int R.1)) R.2.1 R.2.2 := mCon.of (by decide) (Nat.le_of_ble_eq_true rfl) (fun F e C hr => XM_sub (lv' := [(0, .ref (M.1)), (1, .int (x1)), (2, .int (x2)), (3, .int (x3)), (4, .int (x4)), (5, .int (x5))]) [0, 1, 2, 3, 4, 5] rfl (Mo_test_x C hr hR))
def Mo_allTimes_t0 (f : Nat → Int32 → Int32 → Int32 → mS → mL → Option (Int32 × mS × mL)) (n : Nat) (x1 : Int32) (x2 : Int32) (x3 : Int32) (σ : mS) (τ : mL) : Option (Int32 × mS × mL) := bnd (su σ 16 0 (x1)) (fun s1 => bnd (su s1 17 0 ((0 : Int32))) (fun s2 => f 12 (x1) ((0 : Int32)) 0 s2 τ))
def Mo_allTimes_t12 (f : Nat → Int32 → Int32 → Int32 → mS → mL → Option (Int32 × mS × mL)) (n : Nat) (x1 : Int32) (x2 : Int32) (x3 : Int32) (σ : mS) (τ : mL) : Option (Int32 × mS × mL) := (if (5 : Int32) ≤ x2 then some (0, σ, τ) else f 19 (x1) (x2) ((0 : Int32)) σ τ)
def Mo_allTimes_t19 (f : Nat → Int32 → Int32 → Int32 → mS → mL → Option (Int32 × mS × mL)) (n : Nat) (x1 : Int32) (x2 : Int32) (x3 : Int32) (σ : mS) (τ : mL) : Option (Int32 × mS × mL) := (if (5 : Int32) ≤ x3 then f 12 (x1) (x2 + 1) 0 σ τ else (if x2 = x3 then (if xin ((((5 : Int32)) * (x2)) + (x3)) 25 = true then bnd (su σ 15 (Int32.toNatClampNeg ((((5 : Int32)) * (x2)) + (x3))) ((1 : Int32))) (fun s7 => f 19 (x1) (x2) (x3 + 1) s7 τ) else none) else (if x2 = 0 then (if xin ((((5 : Int32)) * (x2)) + (x3)) 25 = true then bnd (su σ 15 (Int32.toNatClampNeg ((((5 : Int32)) * (x2)) + (x3))) ((1 : Int32))) (fun s12 => f 19 (x1) (x2) (x3 + 1) s12 τ) else none) else (if xin ((((5 : Int32)) * (x2)) + (x3)) 25 = true then bnd (su σ 15 (Int32.toNatClampNeg ((((5 : Int32)) * (x2)) + (x3))) ((1000000 : Int32))) (fun s10 => f 19 (x1) (x2) (x3 + 1) s10 τ) else none))))
def Mo_allTimes_f : Nat → Nat → Int32 → Int32 → Int32 → mS → mL → Option (Int32 × mS × mL)
  | 0 => fun _ _ _ _ _ _ => none
  | n + 1 => fun p x1 x2 x3 σ τ => if p = 0 then Mo_allTimes_t0 (Mo_allTimes_f n) n x1 x2 x3 σ τ else if p = 12 then Mo_allTimes_t12 (Mo_allTimes_f n) n x1 x2 x3 σ τ else if p = 19 then Mo_allTimes_t19 (Mo_allTimes_f n) n x1 x2 x3 σ τ else none
theorem Mo_allTimes_e0 (n : Nat) (x1 : Int32) (x2 : Int32) (x3 : Int32) (σ : mS) (τ : mL) : Mo_allTimes_f (n + 1) 0 x1 x2 x3 σ τ = Mo_allTimes_t0 (Mo_allTimes_f n) n x1 x2 x3 σ τ := by
  show (if 0 = 0 then Mo_allTimes_t0 (Mo_allTimes_f n) n x1 x2 x3 σ τ else if 0 = 12 then Mo_allTimes_t12 (Mo_allTimes_f n) n x1 x2 x3 σ τ else if 0 = 19 then Mo_allTimes_t19 (Mo_allTimes_f n) n x1 x2 x3 σ τ else none) = _
  rw [if_pos rfl]
theorem Mo_allTimes_e12 (n : Nat) (x1 : Int32) (x2 : Int32) (x3 : Int32) (σ : mS) (τ : mL) : Mo_allTimes_f (n + 1) 12 x1 x2 x3 σ τ = Mo_allTimes_t12 (Mo_allTimes_f n) n x1 x2 x3 σ τ := by
  show (if 12 = 0 then Mo_allTimes_t0 (Mo_allTimes_f n) n x1 x2 x3 σ τ else if 12 = 12 then Mo_allTimes_t12 (Mo_allTimes_f n) n x1 x2 x3 σ τ else if 12 = 19 then Mo_allTimes_t19 (Mo_allTimes_f n) n x1 x2 x3 σ τ else none) = _
  rw [if_neg (by decide), if_pos rfl]
theorem Mo_allTimes_e19 (n : Nat) (x1 : Int32) (x2 : Int32) (x3 : Int32) (σ : mS) (τ : mL) : Mo_allTimes_f (n + 1) 19 x1 x2 x3 σ τ = Mo_allTimes_t19 (Mo_allTimes_f n) n x1 x2 x3 σ τ := by
  show (if 19 = 0 then Mo_allTimes_t0 (Mo_allTimes_f n) n x1 x2 x3 σ τ else if 19 = 12 then Mo_allTimes_t12 (Mo_allTimes_f n) n x1 x2 x3 σ τ else if 19 = 19 then Mo_allTimes_t19 (Mo_allTimes_f n) n x1 x2 x3 σ τ else none) = _
  rw [if_neg (by decide), if_neg (by decide), if_pos rfl]
set_option maxRecDepth 100000 in
set_option maxHeartbeats 8000000 in
theorem Mo_allTimes_x {F : xF} {G : xG} {B : Nat} {M : xM} (C : xC F G B cMo_allTimes RMo 4 0 0 0 0) (hr : (xFM F).sig.returnType = none) : ∀ (n : Nat) (x1 : Int32) (x2 : Int32) (x3 : Int32) (σ : mS) (τ : mL) (R : Int32 × mS × mL), (Mo_allTimes_f n 0 x1 x2 x3 σ τ = some R → XM F G B (xZ F G B (mP M none R.2.1 R.2.2) 0 0) 4 M σ τ 0 [(0, .ref (M.1)), (1, .int (x1))] []) ∧ (Mo_allTimes_f n 12 x1 x2 x3 σ τ = some R → XM F G B (xZ F G B (mP M none R.2.1 R.2.2) 0 0) 4 M σ τ 12 [(0, .ref (M.1)), (1, .int (x1)), (2, .int (x2))] []) ∧ (Mo_allTimes_f n 19 x1 x2 x3 σ τ = some R → XM F G B (xZ F G B (mP M none R.2.1 R.2.2) 0 0) 4 M σ τ 19 [(0, .ref (M.1)), (1, .int (x1)), (2, .int (x2)), (3, .int (x3))] []) := by
  intro n
  induction n with
  | zero => exact fun _ _ _ _ _ _ => ⟨(fun hR => nomatch (show (none : Option _) = some _ from hR)), (fun hR => nomatch (show (none : Option _) = some _ from hR)), (fun hR => nomatch (show (none : Option _) = some _ from hR))⟩
  | succ n ih =>
    intro x1 x2 x3 σ τ R
    refine ⟨fun hR => ?_, fun hR => ?_, fun hR => ?_⟩
    · rw [Mo_allTimes_e0] at hR
      unfold Mo_allTimes_t0 at hR
      refine XM_aload_n C dMo_allTimes_0 rfl ?_
      refine XM_iload_n C dMo_allTimes_1 rfl ?_
      refine XM_put (k := 16) C rfl fwMo_164 rfl rfl rfl dMo_allTimes_2 ?_
      obtain ⟨s1, es1, hR⟩ := b_bnd hR
      rw [← es1]
      refine XM_aload_n C dMo_allTimes_5 rfl ?_
      refine XM_iconst (v := 0) C dMo_allTimes_6 rfl ?_
      refine XM_put (k := 17) C rfl fwMo_167 rfl rfl rfl dMo_allTimes_7 ?_
      obtain ⟨s2, es2, hR⟩ := b_bnd hR
      rw [← es2]
      refine XM_iconst (v := 0) C dMo_allTimes_10 rfl ?_
      refine XM_istore_n (lv' := [(2, .int ((0 : Int32))), (0, .ref (M.1)), (1, .int (x1))]) C dMo_allTimes_11 (by decide) rfl ?_
      refine XM_sub (lv' := [(0, .ref (M.1)), (1, .int (x1)), (2, .int ((0 : Int32)))]) [1, 2, 0] rfl ?_
      exact (ih (x1) ((0 : Int32)) 0 _ _ _).2.1 hR
    · rw [Mo_allTimes_e12] at hR
      unfold Mo_allTimes_t12 at hR
      refine XM_iload_n C dMo_allTimes_12 rfl ?_
      refine XM_iconst (v := 5) C dMo_allTimes_13 rfl ?_
      refine XM_icmp_ge (tgt := 61) C dMo_allTimes_14 (by decide) (fun c3 => ?_) (fun c3 => ?_)
      · rw [if_pos c3] at hR
        have hR := Option.some.inj hR
        subst hR
        exact XM_vret C hr dMo_allTimes_61 rfl rfl rfl
      · rw [if_neg c3] at hR
        refine XM_iconst (v := 0) C dMo_allTimes_17 rfl ?_
        refine XM_istore_n (lv' := [(3, .int ((0 : Int32))), (0, .ref (M.1)), (1, .int (x1)), (2, .int (x2))]) C dMo_allTimes_18 (by decide) rfl ?_
        refine XM_sub (lv' := [(0, .ref (M.1)), (1, .int (x1)), (2, .int (x2)), (3, .int ((0 : Int32)))]) [1, 2, 3, 0] rfl ?_
        exact (ih (x1) (x2) ((0 : Int32)) _ _ _).2.2 hR
    · rw [Mo_allTimes_e19] at hR
      unfold Mo_allTimes_t19 at hR
      refine XM_iload_n C dMo_allTimes_19 rfl ?_
      refine XM_iconst (v := 5) C dMo_allTimes_20 rfl ?_
      refine XM_icmp_ge (tgt := 55) C dMo_allTimes_21 (by decide) (fun c4 => ?_) (fun c4 => ?_)
      · rw [if_pos c4] at hR
        refine XM_iinc (v := x2 + 1) (lv' := [(2, .int (x2 + 1)), (0, .ref (M.1)), (1, .int (x1)), (3, .int (x3))]) C dMo_allTimes_55 rfl rfl (by decide) rfl ?_
        refine XM_goto (tgt := 12) C dMo_allTimes_58 (by decide) ?_
        refine XM_sub (lv' := [(0, .ref (M.1)), (1, .int (x1)), (2, .int (x2 + 1))]) [1, 2, 0] rfl ?_
        exact (ih (x1) (x2 + 1) 0 _ _ _).2.1 hR
      · rw [if_neg c4] at hR
        refine XM_aload_n C dMo_allTimes_24 rfl ?_
        refine XM_get (k := 15) (v := .ref (M.2.1 15)) C rfl fwMo_49 dMo_allTimes_25 ?_
        refine XM_iconst (v := 5) C dMo_allTimes_28 rfl ?_
        refine XM_iload_n C dMo_allTimes_29 rfl ?_
        refine XM_imul C dMo_allTimes_30 ?_
        refine XM_iload_n C dMo_allTimes_31 rfl ?_
        refine XM_iadd C dMo_allTimes_32 ?_
        refine XM_iload_n C dMo_allTimes_33 rfl ?_
        refine XM_iload_n C dMo_allTimes_34 rfl ?_
        refine XM_icmp_eq (tgt := 42) C dMo_allTimes_35 (by decide) (fun c5 => ?_) (fun c5 => ?_)
        · rw [if_pos c5] at hR
          refine XM_iconst (v := 1) C dMo_allTimes_42 rfl ?_
          refine XM_goto (tgt := 48) C dMo_allTimes_43 (by decide) ?_
          obtain ⟨q6, hR⟩ := o_if hR
          refine XM_iast (k := 15) (n := 25) C rfl (xin_vp q6) dMo_allTimes_48 ?_
          obtain ⟨s7, es7, hR⟩ := b_bnd hR
          rw [← es7]
          refine XM_iinc (v := x3 + 1) (lv' := [(3, .int (x3 + 1)), (0, .ref (M.1)), (1, .int (x1)), (2, .int (x2))]) C dMo_allTimes_49 rfl rfl (by decide) rfl ?_
          refine XM_goto (tgt := 19) C dMo_allTimes_52 (by decide) ?_
          refine XM_sub (lv' := [(0, .ref (M.1)), (1, .int (x1)), (2, .int (x2)), (3, .int (x3 + 1))]) [1, 2, 3, 0] rfl ?_
          exact (ih (x1) (x2) (x3 + 1) _ _ _).2.2 hR
        · rw [if_neg c5] at hR
          refine XM_iload_n C dMo_allTimes_38 rfl ?_
          refine XM_if_ne (tgt := 46) C dMo_allTimes_39 (by decide) (fun c8 => ?_) (fun c8 => ?_)
          · rw [if_neg c8] at hR
            refine XM_ldc (v := 1000000) C kMo_171 dMo_allTimes_46 ?_
            obtain ⟨q9, hR⟩ := o_if hR
            refine XM_iast (k := 15) (n := 25) C rfl (xin_vp q9) dMo_allTimes_48 ?_
            obtain ⟨s10, es10, hR⟩ := b_bnd hR
            rw [← es10]
            refine XM_iinc (v := x3 + 1) (lv' := [(3, .int (x3 + 1)), (0, .ref (M.1)), (1, .int (x1)), (2, .int (x2))]) C dMo_allTimes_49 rfl rfl (by decide) rfl ?_
            refine XM_goto (tgt := 19) C dMo_allTimes_52 (by decide) ?_
            refine XM_sub (lv' := [(0, .ref (M.1)), (1, .int (x1)), (2, .int (x2)), (3, .int (x3 + 1))]) [1, 2, 3, 0] rfl ?_
            exact (ih (x1) (x2) (x3 + 1) _ _ _).2.2 hR
          · rw [if_pos c8] at hR
            refine XM_iconst (v := 1) C dMo_allTimes_42 rfl ?_
            refine XM_goto (tgt := 48) C dMo_allTimes_43 (by decide) ?_
            obtain ⟨q11, hR⟩ := o_if hR
            refine XM_iast (k := 15) (n := 25) C rfl (xin_vp q11) dMo_allTimes_48 ?_
            obtain ⟨s12, es12, hR⟩ := b_bnd hR
            rw [← es12]
            refine XM_iinc (v := x3 + 1) (lv' := [(3, .int (x3 + 1)), (0, .ref (M.1)), (1, .int (x1)), (2, .int (x2))]) C dMo_allTimes_49 rfl rfl (by decide) rfl ?_
            refine XM_goto (tgt := 19) C dMo_allTimes_52 (by decide) ?_
            refine XM_sub (lv' := [(0, .ref (M.1)), (1, .int (x1)), (2, .int (x2)), (3, .int (x3 + 1))]) [1, 2, 3, 0] rfl ?_
            exact (ih (x1) (x2) (x3 + 1) _ _ _).2.2 hR
theorem Mo_allTimes_c {l : Launch} {G : xG} {B : Nat} {M : xM} {n : Nat} {x1 : Int32} {σ : mS} {τ : mL} {R : Int32 × mS × mL} (hR : Mo_allTimes_f n 0 x1 0 0 σ τ = some R) : mCon l yMo_allTimes cMo_allTimes 4 none 0 0 G B M [.ref M.1, .int x1] σ τ none R.2.1 R.2.2 := mCon.of (by decide) (Nat.le_of_ble_eq_true rfl) (fun F e C hr => XM_sub (lv' := [(0, .ref (M.1)), (1, .int (x1))]) [0, 1] rfl ((Mo_allTimes_x C hr n x1 0 0 σ τ R).1 hR))
def Mo_allNull_t0 (f : Nat → Int32 → Int32 → mS → mL → Option (Int32 × mS × mL)) (n : Nat) (x1 : Int32) (x2 : Int32) (σ : mS) (τ : mL) : Option (Int32 × mS × mL) := bnd (su σ 16 0 (x1)) (fun s1 => bnd (su s1 17 0 ((0 : Int32))) (fun s2 => f 12 (x1) ((0 : Int32)) s2 τ))
def Mo_allNull_t12 (f : Nat → Int32 → Int32 → mS → mL → Option (Int32 × mS × mL)) (n : Nat) (x1 : Int32) (x2 : Int32) (σ : mS) (τ : mL) : Option (Int32 × mS × mL) := (if (25 : Int32) ≤ x2 then some (0, σ, τ) else (if xin (x2) 25 = true then bnd (su σ 15 (Int32.toNatClampNeg (x2)) ((1 : Int32))) (fun s5 => f 12 (x1) (x2 + 1) s5 τ) else none))
def Mo_allNull_f : Nat → Nat → Int32 → Int32 → mS → mL → Option (Int32 × mS × mL)
  | 0 => fun _ _ _ _ _ => none
  | n + 1 => fun p x1 x2 σ τ => if p = 0 then Mo_allNull_t0 (Mo_allNull_f n) n x1 x2 σ τ else if p = 12 then Mo_allNull_t12 (Mo_allNull_f n) n x1 x2 σ τ else none
theorem Mo_allNull_e0 (n : Nat) (x1 : Int32) (x2 : Int32) (σ : mS) (τ : mL) : Mo_allNull_f (n + 1) 0 x1 x2 σ τ = Mo_allNull_t0 (Mo_allNull_f n) n x1 x2 σ τ := by
  show (if 0 = 0 then Mo_allNull_t0 (Mo_allNull_f n) n x1 x2 σ τ else if 0 = 12 then Mo_allNull_t12 (Mo_allNull_f n) n x1 x2 σ τ else none) = _
  rw [if_pos rfl]
theorem Mo_allNull_e12 (n : Nat) (x1 : Int32) (x2 : Int32) (σ : mS) (τ : mL) : Mo_allNull_f (n + 1) 12 x1 x2 σ τ = Mo_allNull_t12 (Mo_allNull_f n) n x1 x2 σ τ := by
  show (if 12 = 0 then Mo_allNull_t0 (Mo_allNull_f n) n x1 x2 σ τ else if 12 = 12 then Mo_allNull_t12 (Mo_allNull_f n) n x1 x2 σ τ else none) = _
  rw [if_neg (by decide), if_pos rfl]
set_option maxRecDepth 100000 in
set_option maxHeartbeats 8000000 in
theorem Mo_allNull_x {F : xF} {G : xG} {B : Nat} {M : xM} (C : xC F G B cMo_allNull RMo 3 0 0 0 0) (hr : (xFM F).sig.returnType = none) : ∀ (n : Nat) (x1 : Int32) (x2 : Int32) (σ : mS) (τ : mL) (R : Int32 × mS × mL), (Mo_allNull_f n 0 x1 x2 σ τ = some R → XM F G B (xZ F G B (mP M none R.2.1 R.2.2) 0 0) 3 M σ τ 0 [(0, .ref (M.1)), (1, .int (x1))] []) ∧ (Mo_allNull_f n 12 x1 x2 σ τ = some R → XM F G B (xZ F G B (mP M none R.2.1 R.2.2) 0 0) 3 M σ τ 12 [(0, .ref (M.1)), (1, .int (x1)), (2, .int (x2))] []) := by
  intro n
  induction n with
  | zero => exact fun _ _ _ _ _ => ⟨(fun hR => nomatch (show (none : Option _) = some _ from hR)), (fun hR => nomatch (show (none : Option _) = some _ from hR))⟩
  | succ n ih =>
    intro x1 x2 σ τ R
    refine ⟨fun hR => ?_, fun hR => ?_⟩
    · rw [Mo_allNull_e0] at hR
      unfold Mo_allNull_t0 at hR
      refine XM_aload_n C dMo_allNull_0 rfl ?_
      refine XM_iload_n C dMo_allNull_1 rfl ?_
      refine XM_put (k := 16) C rfl fwMo_164 rfl rfl rfl dMo_allNull_2 ?_
      obtain ⟨s1, es1, hR⟩ := b_bnd hR
      rw [← es1]
      refine XM_aload_n C dMo_allNull_5 rfl ?_
      refine XM_iconst (v := 0) C dMo_allNull_6 rfl ?_
      refine XM_put (k := 17) C rfl fwMo_167 rfl rfl rfl dMo_allNull_7 ?_
      obtain ⟨s2, es2, hR⟩ := b_bnd hR
      rw [← es2]
      refine XM_iconst (v := 0) C dMo_allNull_10 rfl ?_
      refine XM_istore_n (lv' := [(2, .int ((0 : Int32))), (0, .ref (M.1)), (1, .int (x1))]) C dMo_allNull_11 (by decide) rfl ?_
      refine XM_sub (lv' := [(0, .ref (M.1)), (1, .int (x1)), (2, .int ((0 : Int32)))]) [1, 2, 0] rfl ?_
      exact (ih (x1) ((0 : Int32)) _ _ _).2 hR
    · rw [Mo_allNull_e12] at hR
      unfold Mo_allNull_t12 at hR
      refine XM_iload_n C dMo_allNull_12 rfl ?_
      refine XM_bipush (v := 25) C dMo_allNull_13 (by decide) ?_
      refine XM_icmp_ge (tgt := 31) C dMo_allNull_15 (by decide) (fun c3 => ?_) (fun c3 => ?_)
      · rw [if_pos c3] at hR
        have hR := Option.some.inj hR
        subst hR
        exact XM_vret C hr dMo_allNull_31 rfl rfl rfl
      · rw [if_neg c3] at hR
        refine XM_aload_n C dMo_allNull_18 rfl ?_
        refine XM_get (k := 15) (v := .ref (M.2.1 15)) C rfl fwMo_49 dMo_allNull_19 ?_
        refine XM_iload_n C dMo_allNull_22 rfl ?_
        refine XM_iconst (v := 1) C dMo_allNull_23 rfl ?_
        obtain ⟨q4, hR⟩ := o_if hR
        refine XM_iast (k := 15) (n := 25) C rfl (xin_vp q4) dMo_allNull_24 ?_
        obtain ⟨s5, es5, hR⟩ := b_bnd hR
        rw [← es5]
        refine XM_iinc (v := x2 + 1) (lv' := [(2, .int (x2 + 1)), (0, .ref (M.1)), (1, .int (x1))]) C dMo_allNull_25 rfl rfl (by decide) rfl ?_
        refine XM_goto (tgt := 12) C dMo_allNull_28 (by decide) ?_
        refine XM_sub (lv' := [(0, .ref (M.1)), (1, .int (x1)), (2, .int (x2 + 1))]) [1, 2, 0] rfl ?_
        exact (ih (x1) (x2 + 1) _ _ _).2 hR
theorem Mo_allNull_c {l : Launch} {G : xG} {B : Nat} {M : xM} {n : Nat} {x1 : Int32} {σ : mS} {τ : mL} {R : Int32 × mS × mL} (hR : Mo_allNull_f n 0 x1 0 σ τ = some R) : mCon l yMo_allNull cMo_allNull 3 none 0 0 G B M [.ref M.1, .int x1] σ τ none R.2.1 R.2.2 := mCon.of (by decide) (Nat.le_of_ble_eq_true rfl) (fun F e C hr => XM_sub (lv' := [(0, .ref (M.1)), (1, .int (x1))]) [0, 1] rfl ((Mo_allNull_x C hr n x1 0 σ τ R).1 hR))
def Mo_sum_f (x0 : Int32) (x1 : Int32) : Int32 := (if x0 = (1000000 : Int32) then (1000000 : Int32) else (if x1 = (1000000 : Int32) then (1000000 : Int32) else (if (x0) &&& ((1 : Int32)) = 0 then Mo_boundOf_f (((x0) >>> (((1 : Int32)) &&& 31)) + ((x1) >>> (((1 : Int32)) &&& 31))) ((1 : Int32)) else (if (x1) &&& ((1 : Int32)) = 0 then Mo_boundOf_f (((x0) >>> (((1 : Int32)) &&& 31)) + ((x1) >>> (((1 : Int32)) &&& 31))) ((1 : Int32)) else Mo_boundOf_f (((x0) >>> (((1 : Int32)) &&& 31)) + ((x1) >>> (((1 : Int32)) &&& 31))) ((0 : Int32))))))
set_option maxRecDepth 100000 in
set_option maxHeartbeats 4000000 in
theorem Mo_sum_c {l : Launch} {G : xG} {B : Nat} (x0 : Int32) (x1 : Int32) : pCon l yMo_sum cMo_sum 3 (some .int) 1 21 G B [.int (x0), .int (x1)] (some (.int (Mo_sum_f x0 x1))) := by
  refine pCon.of (by decide) (Nat.le_of_ble_eq_true rfl) (fun F h sz e C hr => ?_)
  subst e
  obtain ⟨R, hR⟩ : ∃ R, Mo_sum_f x0 x1 = R := ⟨_, rfl⟩
  rw [hR]
  unfold Mo_sum_f at hR
  refine X_sub (lv' := [(0, .int (x0)), (1, .int (x1))]) [0, 1] rfl ?_
  refine X_iload_n C dMo_sum_0 rfl ?_
  refine X_ldc (v := 1000000) C kMo_171 dMo_sum_1 ?_
  refine X_icmp_eq (tgt := 12) C dMo_sum_3 (by decide) (fun c1 => ?_) (fun c1 => ?_)
  · rw [if_pos c1] at hR
    refine X_ldc (v := 1000000) C kMo_171 dMo_sum_12 ?_
    subst hR
    exact X_iret C hr (Nat.le_refl _) (Nat.le_refl _) dMo_sum_14 ⟨rfl, rfl, rfl⟩
  · rw [if_neg c1] at hR
    refine X_iload_n C dMo_sum_6 rfl ?_
    refine X_ldc (v := 1000000) C kMo_171 dMo_sum_7 ?_
    refine X_icmp_ne (tgt := 15) C dMo_sum_9 (by decide) (fun c2 => ?_) (fun c2 => ?_)
    · rw [if_neg c2] at hR
      refine X_iload_n C dMo_sum_15 rfl ?_
      refine X_iconst (v := 1) C dMo_sum_16 rfl ?_
      refine X_ishr C dMo_sum_17 ?_
      refine X_iload_n C dMo_sum_18 rfl ?_
      refine X_iconst (v := 1) C dMo_sum_19 rfl ?_
      refine X_ishr C dMo_sum_20 ?_
      refine X_iadd C dMo_sum_21 ?_
      refine X_istore_n (lv' := [(2, .int (((x0) >>> (((1 : Int32)) &&& 31)) + ((x1) >>> (((1 : Int32)) &&& 31)))), (0, .int (x0)), (1, .int (x1))]) C dMo_sum_22 (by decide) rfl ?_
      refine X_iload_n C dMo_sum_23 rfl ?_
      refine X_iload_n C dMo_sum_24 rfl ?_
      refine X_iconst (v := 1) C dMo_sum_25 rfl ?_
      refine X_iand C dMo_sum_26 ?_
      refine X_if_eq (tgt := 36) C dMo_sum_27 (by decide) (fun c3 => ?_) (fun c3 => ?_)
      · rw [if_pos c3] at hR
        refine X_iconst (v := 1) C dMo_sum_36 rfl ?_
        refine X_goto (tgt := 41) C dMo_sum_37 (by decide) ?_
        refine X_callSi (As := [.int (((x0) >>> (((1 : Int32)) &&& 31)) + ((x1) >>> (((1 : Int32)) &&& 31))), .int ((1 : Int32))]) (rest := []) C (Mo_boundOf_c (((x0) >>> (((1 : Int32)) &&& 31)) + ((x1) >>> (((1 : Int32)) &&& 31))) ((1 : Int32))) wMo_147 ⟨by decide, by decide⟩ ⟨Nat.le_refl _, Nat.le_refl _⟩ rfl rfl (Nat.le_of_ble_eq_true rfl) dMo_sum_41 ?_
        subst hR
        exact X_iret C hr (Nat.le_refl _) (Nat.le_refl _) dMo_sum_44 ⟨rfl, rfl, rfl⟩
      · rw [if_neg c3] at hR
        refine X_iload_n C dMo_sum_30 rfl ?_
        refine X_iconst (v := 1) C dMo_sum_31 rfl ?_
        refine X_iand C dMo_sum_32 ?_
        refine X_if_ne (tgt := 40) C dMo_sum_33 (by decide) (fun c4 => ?_) (fun c4 => ?_)
        · rw [if_neg c4] at hR
          refine X_iconst (v := 0) C dMo_sum_40 rfl ?_
          refine X_callSi (As := [.int (((x0) >>> (((1 : Int32)) &&& 31)) + ((x1) >>> (((1 : Int32)) &&& 31))), .int ((0 : Int32))]) (rest := []) C (Mo_boundOf_c (((x0) >>> (((1 : Int32)) &&& 31)) + ((x1) >>> (((1 : Int32)) &&& 31))) ((0 : Int32))) wMo_147 ⟨by decide, by decide⟩ ⟨Nat.le_refl _, Nat.le_refl _⟩ rfl rfl (Nat.le_of_ble_eq_true rfl) dMo_sum_41 ?_
          subst hR
          exact X_iret C hr (Nat.le_refl _) (Nat.le_refl _) dMo_sum_44 ⟨rfl, rfl, rfl⟩
        · rw [if_pos c4] at hR
          refine X_iconst (v := 1) C dMo_sum_36 rfl ?_
          refine X_goto (tgt := 41) C dMo_sum_37 (by decide) ?_
          refine X_callSi (As := [.int (((x0) >>> (((1 : Int32)) &&& 31)) + ((x1) >>> (((1 : Int32)) &&& 31))), .int ((1 : Int32))]) (rest := []) C (Mo_boundOf_c (((x0) >>> (((1 : Int32)) &&& 31)) + ((x1) >>> (((1 : Int32)) &&& 31))) ((1 : Int32))) wMo_147 ⟨by decide, by decide⟩ ⟨Nat.le_refl _, Nat.le_refl _⟩ rfl rfl (Nat.le_of_ble_eq_true rfl) dMo_sum_41 ?_
          subst hR
          exact X_iret C hr (Nat.le_refl _) (Nat.le_refl _) dMo_sum_44 ⟨rfl, rfl, rfl⟩
    · rw [if_pos c2] at hR
      refine X_ldc (v := 1000000) C kMo_171 dMo_sum_12 ?_
      subst hR
      exact X_iret C hr (Nat.le_refl _) (Nat.le_refl _) dMo_sum_14 ⟨rfl, rfl, rfl⟩
def Mo_close_t0 (f : Nat → Int32 → Int32 → Int32 → Int32 → mS → mL → Option (Int32 × mS × mL)) (n : Nat) (x1 : Int32) (x2 : Int32) (x3 : Int32) (x4 : Int32) (σ : mS) (τ : mL) : Option (Int32 × mS × mL) := f 2 ((0 : Int32)) 0 0 0 σ τ
def Mo_close_t2 (f : Nat → Int32 → Int32 → Int32 → Int32 → mS → mL → Option (Int32 × mS × mL)) (n : Nat) (x1 : Int32) (x2 : Int32) (x3 : Int32) (x4 : Int32) (σ : mS) (τ : mL) : Option (Int32 × mS × mL) := (if σ 16 0 ≤ x1 then f 115 ((0 : Int32)) 0 0 0 σ τ else f 12 (x1) ((0 : Int32)) 0 0 σ τ)
def Mo_close_t12 (f : Nat → Int32 → Int32 → Int32 → Int32 → mS → mL → Option (Int32 × mS × mL)) (n : Nat) (x1 : Int32) (x2 : Int32) (x3 : Int32) (x4 : Int32) (σ : mS) (τ : mL) : Option (Int32 × mS × mL) := (if σ 16 0 ≤ x2 then f 2 (x1 + 1) 0 0 0 σ τ else f 22 (x1) (x2) ((0 : Int32)) 0 σ τ)
def Mo_close_t22 (f : Nat → Int32 → Int32 → Int32 → Int32 → mS → mL → Option (Int32 × mS × mL)) (n : Nat) (x1 : Int32) (x2 : Int32) (x3 : Int32) (x4 : Int32) (σ : mS) (τ : mL) : Option (Int32 × mS × mL) := (if σ 16 0 ≤ x3 then f 12 (x1) (x2 + 1) 0 0 σ τ else (if xin ((((5 : Int32)) * (x2)) + (x1)) 25 = true then (if xin ((((5 : Int32)) * (x1)) + (x3)) 25 = true then (if xin ((((5 : Int32)) * (x2)) + (x3)) 25 = true then (if σ 15 (Int32.toNatClampNeg ((((5 : Int32)) * (x2)) + (x3))) ≤ Mo_sum_f (σ 15 (Int32.toNatClampNeg ((((5 : Int32)) * (x2)) + (x1)))) (σ 15 (Int32.toNatClampNeg ((((5 : Int32)) * (x1)) + (x3)))) then (if xin ((((5 : Int32)) * (x2)) + (x3)) 25 = true then (if xin ((((5 : Int32)) * (x2)) + (x3)) 25 = true then bnd (su σ 15 (Int32.toNatClampNeg ((((5 : Int32)) * (x2)) + (x3))) (σ 15 (Int32.toNatClampNeg ((((5 : Int32)) * (x2)) + (x3))))) (fun s10 => f 22 (x1) (x2) (x3 + 1) 0 s10 τ) else none) else none) else (if xin ((((5 : Int32)) * (x2)) + (x3)) 25 = true then bnd (su σ 15 (Int32.toNatClampNeg ((((5 : Int32)) * (x2)) + (x3))) (Mo_sum_f (σ 15 (Int32.toNatClampNeg ((((5 : Int32)) * (x2)) + (x1)))) (σ 15 (Int32.toNatClampNeg ((((5 : Int32)) * (x1)) + (x3)))))) (fun s12 => f 22 (x1) (x2) (x3 + 1) 0 s12 τ) else none)) else none) else none) else none))
def Mo_close_t115 (f : Nat → Int32 → Int32 → Int32 → Int32 → mS → mL → Option (Int32 × mS × mL)) (n : Nat) (x1 : Int32) (x2 : Int32) (x3 : Int32) (x4 : Int32) (σ : mS) (τ : mL) : Option (Int32 × mS × mL) := (if σ 16 0 ≤ x1 then some (0, σ, τ) else (if σ 17 0 = 0 then (if xin (((6 : Int32)) * (x1)) 25 = true then (if (1 : Int32) ≤ σ 15 (Int32.toNatClampNeg (((6 : Int32)) * (x1))) then bnd (su σ 17 0 ((0 : Int32))) (fun s18 => f 115 (x1 + 1) 0 0 0 s18 τ) else bnd (su σ 17 0 ((1 : Int32))) (fun s19 => f 115 (x1 + 1) 0 0 0 s19 τ)) else none) else bnd (su σ 17 0 ((1 : Int32))) (fun s15 => f 115 (x1 + 1) 0 0 0 s15 τ)))
def Mo_close_f : Nat → Nat → Int32 → Int32 → Int32 → Int32 → mS → mL → Option (Int32 × mS × mL)
  | 0 => fun _ _ _ _ _ _ _ => none
  | n + 1 => fun p x1 x2 x3 x4 σ τ => if p = 0 then Mo_close_t0 (Mo_close_f n) n x1 x2 x3 x4 σ τ else if p = 2 then Mo_close_t2 (Mo_close_f n) n x1 x2 x3 x4 σ τ else if p = 12 then Mo_close_t12 (Mo_close_f n) n x1 x2 x3 x4 σ τ else if p = 22 then Mo_close_t22 (Mo_close_f n) n x1 x2 x3 x4 σ τ else if p = 115 then Mo_close_t115 (Mo_close_f n) n x1 x2 x3 x4 σ τ else none
theorem Mo_close_e0 (n : Nat) (x1 : Int32) (x2 : Int32) (x3 : Int32) (x4 : Int32) (σ : mS) (τ : mL) : Mo_close_f (n + 1) 0 x1 x2 x3 x4 σ τ = Mo_close_t0 (Mo_close_f n) n x1 x2 x3 x4 σ τ := by
  show (if 0 = 0 then Mo_close_t0 (Mo_close_f n) n x1 x2 x3 x4 σ τ else if 0 = 2 then Mo_close_t2 (Mo_close_f n) n x1 x2 x3 x4 σ τ else if 0 = 12 then Mo_close_t12 (Mo_close_f n) n x1 x2 x3 x4 σ τ else if 0 = 22 then Mo_close_t22 (Mo_close_f n) n x1 x2 x3 x4 σ τ else if 0 = 115 then Mo_close_t115 (Mo_close_f n) n x1 x2 x3 x4 σ τ else none) = _
  rw [if_pos rfl]
theorem Mo_close_e2 (n : Nat) (x1 : Int32) (x2 : Int32) (x3 : Int32) (x4 : Int32) (σ : mS) (τ : mL) : Mo_close_f (n + 1) 2 x1 x2 x3 x4 σ τ = Mo_close_t2 (Mo_close_f n) n x1 x2 x3 x4 σ τ := by
  show (if 2 = 0 then Mo_close_t0 (Mo_close_f n) n x1 x2 x3 x4 σ τ else if 2 = 2 then Mo_close_t2 (Mo_close_f n) n x1 x2 x3 x4 σ τ else if 2 = 12 then Mo_close_t12 (Mo_close_f n) n x1 x2 x3 x4 σ τ else if 2 = 22 then Mo_close_t22 (Mo_close_f n) n x1 x2 x3 x4 σ τ else if 2 = 115 then Mo_close_t115 (Mo_close_f n) n x1 x2 x3 x4 σ τ else none) = _
  rw [if_neg (by decide), if_pos rfl]
theorem Mo_close_e12 (n : Nat) (x1 : Int32) (x2 : Int32) (x3 : Int32) (x4 : Int32) (σ : mS) (τ : mL) : Mo_close_f (n + 1) 12 x1 x2 x3 x4 σ τ = Mo_close_t12 (Mo_close_f n) n x1 x2 x3 x4 σ τ := by
  show (if 12 = 0 then Mo_close_t0 (Mo_close_f n) n x1 x2 x3 x4 σ τ else if 12 = 2 then Mo_close_t2 (Mo_close_f n) n x1 x2 x3 x4 σ τ else if 12 = 12 then Mo_close_t12 (Mo_close_f n) n x1 x2 x3 x4 σ τ else if 12 = 22 then Mo_close_t22 (Mo_close_f n) n x1 x2 x3 x4 σ τ else if 12 = 115 then Mo_close_t115 (Mo_close_f n) n x1 x2 x3 x4 σ τ else none) = _
  rw [if_neg (by decide), if_neg (by decide), if_pos rfl]
theorem Mo_close_e22 (n : Nat) (x1 : Int32) (x2 : Int32) (x3 : Int32) (x4 : Int32) (σ : mS) (τ : mL) : Mo_close_f (n + 1) 22 x1 x2 x3 x4 σ τ = Mo_close_t22 (Mo_close_f n) n x1 x2 x3 x4 σ τ := by
  show (if 22 = 0 then Mo_close_t0 (Mo_close_f n) n x1 x2 x3 x4 σ τ else if 22 = 2 then Mo_close_t2 (Mo_close_f n) n x1 x2 x3 x4 σ τ else if 22 = 12 then Mo_close_t12 (Mo_close_f n) n x1 x2 x3 x4 σ τ else if 22 = 22 then Mo_close_t22 (Mo_close_f n) n x1 x2 x3 x4 σ τ else if 22 = 115 then Mo_close_t115 (Mo_close_f n) n x1 x2 x3 x4 σ τ else none) = _
  rw [if_neg (by decide), if_neg (by decide), if_neg (by decide), if_pos rfl]
theorem Mo_close_e115 (n : Nat) (x1 : Int32) (x2 : Int32) (x3 : Int32) (x4 : Int32) (σ : mS) (τ : mL) : Mo_close_f (n + 1) 115 x1 x2 x3 x4 σ τ = Mo_close_t115 (Mo_close_f n) n x1 x2 x3 x4 σ τ := by
  show (if 115 = 0 then Mo_close_t0 (Mo_close_f n) n x1 x2 x3 x4 σ τ else if 115 = 2 then Mo_close_t2 (Mo_close_f n) n x1 x2 x3 x4 σ τ else if 115 = 12 then Mo_close_t12 (Mo_close_f n) n x1 x2 x3 x4 σ τ else if 115 = 22 then Mo_close_t22 (Mo_close_f n) n x1 x2 x3 x4 σ τ else if 115 = 115 then Mo_close_t115 (Mo_close_f n) n x1 x2 x3 x4 σ τ else none) = _
  rw [if_neg (by decide), if_neg (by decide), if_neg (by decide), if_neg (by decide), if_pos rfl]
set_option maxRecDepth 100000 in
set_option maxHeartbeats 8000000 in
theorem Mo_close_x {F : xF} {G : xG} {B : Nat} {M : xM} (C : xC F G B cMo_close RMo 5 2 43 0 0) (hr : (xFM F).sig.returnType = none) : ∀ (n : Nat) (x1 : Int32) (x2 : Int32) (x3 : Int32) (x4 : Int32) (σ : mS) (τ : mL) (R : Int32 × mS × mL), (Mo_close_f n 0 x1 x2 x3 x4 σ τ = some R → XM F G B (xZ F G B (mP M none R.2.1 R.2.2) 0 0) 5 M σ τ 0 [(0, .ref (M.1))] []) ∧ (Mo_close_f n 2 x1 x2 x3 x4 σ τ = some R → XM F G B (xZ F G B (mP M none R.2.1 R.2.2) 0 0) 5 M σ τ 2 [(0, .ref (M.1)), (1, .int (x1))] []) ∧ (Mo_close_f n 12 x1 x2 x3 x4 σ τ = some R → XM F G B (xZ F G B (mP M none R.2.1 R.2.2) 0 0) 5 M σ τ 12 [(0, .ref (M.1)), (1, .int (x1)), (2, .int (x2))] []) ∧ (Mo_close_f n 22 x1 x2 x3 x4 σ τ = some R → XM F G B (xZ F G B (mP M none R.2.1 R.2.2) 0 0) 5 M σ τ 22 [(0, .ref (M.1)), (1, .int (x1)), (2, .int (x2)), (3, .int (x3))] []) ∧ (Mo_close_f n 115 x1 x2 x3 x4 σ τ = some R → XM F G B (xZ F G B (mP M none R.2.1 R.2.2) 0 0) 5 M σ τ 115 [(0, .ref (M.1)), (1, .int (x1))] []) := by
  intro n
  induction n with
  | zero => exact fun _ _ _ _ _ _ _ => ⟨(fun hR => nomatch (show (none : Option _) = some _ from hR)), (fun hR => nomatch (show (none : Option _) = some _ from hR)), (fun hR => nomatch (show (none : Option _) = some _ from hR)), (fun hR => nomatch (show (none : Option _) = some _ from hR)), (fun hR => nomatch (show (none : Option _) = some _ from hR))⟩
  | succ n ih =>
    intro x1 x2 x3 x4 σ τ R
    refine ⟨fun hR => ?_, fun hR => ?_, fun hR => ?_, fun hR => ?_, fun hR => ?_⟩
    · rw [Mo_close_e0] at hR
      unfold Mo_close_t0 at hR
      refine XM_iconst (v := 0) C dMo_close_0 rfl ?_
      refine XM_istore_n (lv' := [(1, .int ((0 : Int32))), (0, .ref (M.1))]) C dMo_close_1 (by decide) rfl ?_
      refine XM_sub (lv' := [(0, .ref (M.1)), (1, .int ((0 : Int32)))]) [1, 0] rfl ?_
      exact (ih ((0 : Int32)) 0 0 0 _ _ _).2.1 hR
    · rw [Mo_close_e2] at hR
      unfold Mo_close_t2 at hR
      refine XM_iload_n C dMo_close_2 rfl ?_
      refine XM_aload_n C dMo_close_3 rfl ?_
      refine XM_get (k := 16) (v := .int (σ 16 0)) C rfl fwMo_164 dMo_close_4 ?_
      refine XM_icmp_ge (tgt := 113) C dMo_close_7 (by decide) (fun c1 => ?_) (fun c1 => ?_)
      · rw [if_pos c1] at hR
        refine XM_iconst (v := 0) C dMo_close_113 rfl ?_
        refine XM_istore_n (lv' := [(1, .int ((0 : Int32))), (0, .ref (M.1))]) C dMo_close_114 (by decide) rfl ?_
        refine XM_sub (lv' := [(0, .ref (M.1)), (1, .int ((0 : Int32)))]) [1, 0] rfl ?_
        exact (ih ((0 : Int32)) 0 0 0 _ _ _).2.2.2.2 hR
      · rw [if_neg c1] at hR
        refine XM_iconst (v := 0) C dMo_close_10 rfl ?_
        refine XM_istore_n (lv' := [(2, .int ((0 : Int32))), (0, .ref (M.1)), (1, .int (x1))]) C dMo_close_11 (by decide) rfl ?_
        refine XM_sub (lv' := [(0, .ref (M.1)), (1, .int (x1)), (2, .int ((0 : Int32)))]) [1, 2, 0] rfl ?_
        exact (ih (x1) ((0 : Int32)) 0 0 _ _ _).2.2.1 hR
    · rw [Mo_close_e12] at hR
      unfold Mo_close_t12 at hR
      refine XM_iload_n C dMo_close_12 rfl ?_
      refine XM_aload_n C dMo_close_13 rfl ?_
      refine XM_get (k := 16) (v := .int (σ 16 0)) C rfl fwMo_164 dMo_close_14 ?_
      refine XM_icmp_ge (tgt := 107) C dMo_close_17 (by decide) (fun c2 => ?_) (fun c2 => ?_)
      · rw [if_pos c2] at hR
        refine XM_iinc (v := x1 + 1) (lv' := [(1, .int (x1 + 1)), (0, .ref (M.1)), (2, .int (x2))]) C dMo_close_107 rfl rfl (by decide) rfl ?_
        refine XM_goto (tgt := 2) C dMo_close_110 (by decide) ?_
        refine XM_sub (lv' := [(0, .ref (M.1)), (1, .int (x1 + 1))]) [1, 0] rfl ?_
        exact (ih (x1 + 1) 0 0 0 _ _ _).2.1 hR
      · rw [if_neg c2] at hR
        refine XM_iconst (v := 0) C dMo_close_20 rfl ?_
        refine XM_istore_n (lv' := [(3, .int ((0 : Int32))), (0, .ref (M.1)), (1, .int (x1)), (2, .int (x2))]) C dMo_close_21 (by decide) rfl ?_
        refine XM_sub (lv' := [(0, .ref (M.1)), (1, .int (x1)), (2, .int (x2)), (3, .int ((0 : Int32)))]) [1, 2, 3, 0] rfl ?_
        exact (ih (x1) (x2) ((0 : Int32)) 0 _ _ _).2.2.2.1 hR
    · rw [Mo_close_e22] at hR
      unfold Mo_close_t22 at hR
      refine XM_iload_n C dMo_close_22 rfl ?_
      refine XM_aload_n C dMo_close_23 rfl ?_
      refine XM_get (k := 16) (v := .int (σ 16 0)) C rfl fwMo_164 dMo_close_24 ?_
      refine XM_icmp_ge (tgt := 101) C dMo_close_27 (by decide) (fun c3 => ?_) (fun c3 => ?_)
      · rw [if_pos c3] at hR
        refine XM_iinc (v := x2 + 1) (lv' := [(2, .int (x2 + 1)), (0, .ref (M.1)), (1, .int (x1)), (3, .int (x3))]) C dMo_close_101 rfl rfl (by decide) rfl ?_
        refine XM_goto (tgt := 12) C dMo_close_104 (by decide) ?_
        refine XM_sub (lv' := [(0, .ref (M.1)), (1, .int (x1)), (2, .int (x2 + 1))]) [1, 2, 0] rfl ?_
        exact (ih (x1) (x2 + 1) 0 0 _ _ _).2.2.1 hR
      · rw [if_neg c3] at hR
        refine XM_aload_n C dMo_close_30 rfl ?_
        refine XM_get (k := 15) (v := .ref (M.2.1 15)) C rfl fwMo_49 dMo_close_31 ?_
        refine XM_iconst (v := 5) C dMo_close_34 rfl ?_
        refine XM_iload_n C dMo_close_35 rfl ?_
        refine XM_imul C dMo_close_36 ?_
        refine XM_iload_n C dMo_close_37 rfl ?_
        refine XM_iadd C dMo_close_38 ?_
        obtain ⟨q4, hR⟩ := o_if hR
        refine XM_iald (k := 15) (n := 25) C rfl (xin_vp q4) dMo_close_39 ?_
        refine XM_aload_n C dMo_close_40 rfl ?_
        refine XM_get (k := 15) (v := .ref (M.2.1 15)) C rfl fwMo_49 dMo_close_41 ?_
        refine XM_iconst (v := 5) C dMo_close_44 rfl ?_
        refine XM_iload_n C dMo_close_45 rfl ?_
        refine XM_imul C dMo_close_46 ?_
        refine XM_iload_n C dMo_close_47 rfl ?_
        refine XM_iadd C dMo_close_48 ?_
        obtain ⟨q5, hR⟩ := o_if hR
        refine XM_iald (k := 15) (n := 25) C rfl (xin_vp q5) dMo_close_49 ?_
        refine XM_callSi (As := [.int (σ 15 (Int32.toNatClampNeg ((((5 : Int32)) * (x2)) + (x1)))), .int (σ 15 (Int32.toNatClampNeg ((((5 : Int32)) * (x1)) + (x3))))]) (rest := []) C (Mo_sum_c (σ 15 (Int32.toNatClampNeg ((((5 : Int32)) * (x2)) + (x1)))) (σ 15 (Int32.toNatClampNeg ((((5 : Int32)) * (x1)) + (x3))))) wMo_172 ⟨by decide, by decide⟩ rfl rfl (Nat.le_of_ble_eq_true rfl) dMo_close_50 ?_
        refine XM_istore (lv' := [(4, .int (Mo_sum_f (σ 15 (Int32.toNatClampNeg ((((5 : Int32)) * (x2)) + (x1)))) (σ 15 (Int32.toNatClampNeg ((((5 : Int32)) * (x1)) + (x3)))))), (0, .ref (M.1)), (1, .int (x1)), (2, .int (x2)), (3, .int (x3))]) C dMo_close_53 (by decide) rfl ?_
        refine XM_aload_n C dMo_close_55 rfl ?_
        refine XM_get (k := 15) (v := .ref (M.2.1 15)) C rfl fwMo_49 dMo_close_56 ?_
        refine XM_iconst (v := 5) C dMo_close_59 rfl ?_
        refine XM_iload_n C dMo_close_60 rfl ?_
        refine XM_imul C dMo_close_61 ?_
        refine XM_iload_n C dMo_close_62 rfl ?_
        refine XM_iadd C dMo_close_63 ?_
        refine XM_iload C dMo_close_64 rfl ?_
        refine XM_aload_n C dMo_close_66 rfl ?_
        refine XM_get (k := 15) (v := .ref (M.2.1 15)) C rfl fwMo_49 dMo_close_67 ?_
        refine XM_iconst (v := 5) C dMo_close_70 rfl ?_
        refine XM_iload_n C dMo_close_71 rfl ?_
        refine XM_imul C dMo_close_72 ?_
        refine XM_iload_n C dMo_close_73 rfl ?_
        refine XM_iadd C dMo_close_74 ?_
        obtain ⟨q6, hR⟩ := o_if hR
        refine XM_iald (k := 15) (n := 25) C rfl (xin_vp q6) dMo_close_75 ?_
        refine XM_icmp_ge (tgt := 84) C dMo_close_76 (by decide) (fun c7 => ?_) (fun c7 => ?_)
        · rw [if_pos c7] at hR
          refine XM_aload_n C dMo_close_84 rfl ?_
          refine XM_get (k := 15) (v := .ref (M.2.1 15)) C rfl fwMo_49 dMo_close_85 ?_
          refine XM_iconst (v := 5) C dMo_close_88 rfl ?_
          refine XM_iload_n C dMo_close_89 rfl ?_
          refine XM_imul C dMo_close_90 ?_
          refine XM_iload_n C dMo_close_91 rfl ?_
          refine XM_iadd C dMo_close_92 ?_
          obtain ⟨q8, hR⟩ := o_if hR
          refine XM_iald (k := 15) (n := 25) C rfl (xin_vp q8) dMo_close_93 ?_
          obtain ⟨q9, hR⟩ := o_if hR
          refine XM_iast (k := 15) (n := 25) C rfl (xin_vp q9) dMo_close_94 ?_
          obtain ⟨s10, es10, hR⟩ := b_bnd hR
          rw [← es10]
          refine XM_iinc (v := x3 + 1) (lv' := [(3, .int (x3 + 1)), (4, .int (Mo_sum_f (σ 15 (Int32.toNatClampNeg ((((5 : Int32)) * (x2)) + (x1)))) (σ 15 (Int32.toNatClampNeg ((((5 : Int32)) * (x1)) + (x3)))))), (0, .ref (M.1)), (1, .int (x1)), (2, .int (x2))]) C dMo_close_95 rfl rfl (by decide) rfl ?_
          refine XM_goto (tgt := 22) C dMo_close_98 (by decide) ?_
          refine XM_sub (lv' := [(0, .ref (M.1)), (1, .int (x1)), (2, .int (x2)), (3, .int (x3 + 1))]) [2, 3, 4, 0] rfl ?_
          exact (ih (x1) (x2) (x3 + 1) 0 _ _ _).2.2.2.1 hR
        · rw [if_neg c7] at hR
          refine XM_iload C dMo_close_79 rfl ?_
          refine XM_goto (tgt := 94) C dMo_close_81 (by decide) ?_
          obtain ⟨q11, hR⟩ := o_if hR
          refine XM_iast (k := 15) (n := 25) C rfl (xin_vp q11) dMo_close_94 ?_
          obtain ⟨s12, es12, hR⟩ := b_bnd hR
          rw [← es12]
          refine XM_iinc (v := x3 + 1) (lv' := [(3, .int (x3 + 1)), (4, .int (Mo_sum_f (σ 15 (Int32.toNatClampNeg ((((5 : Int32)) * (x2)) + (x1)))) (σ 15 (Int32.toNatClampNeg ((((5 : Int32)) * (x1)) + (x3)))))), (0, .ref (M.1)), (1, .int (x1)), (2, .int (x2))]) C dMo_close_95 rfl rfl (by decide) rfl ?_
          refine XM_goto (tgt := 22) C dMo_close_98 (by decide) ?_
          refine XM_sub (lv' := [(0, .ref (M.1)), (1, .int (x1)), (2, .int (x2)), (3, .int (x3 + 1))]) [2, 3, 4, 0] rfl ?_
          exact (ih (x1) (x2) (x3 + 1) 0 _ _ _).2.2.2.1 hR
    · rw [Mo_close_e115] at hR
      unfold Mo_close_t115 at hR
      refine XM_iload_n C dMo_close_115 rfl ?_
      refine XM_aload_n C dMo_close_116 rfl ?_
      refine XM_get (k := 16) (v := .int (σ 16 0)) C rfl fwMo_164 dMo_close_117 ?_
      refine XM_icmp_ge (tgt := 158) C dMo_close_120 (by decide) (fun c13 => ?_) (fun c13 => ?_)
      · rw [if_pos c13] at hR
        have hR := Option.some.inj hR
        subst hR
        exact XM_vret C hr dMo_close_158 rfl rfl rfl
      · rw [if_neg c13] at hR
        refine XM_aload_n C dMo_close_123 rfl ?_
        refine XM_aload_n C dMo_close_124 rfl ?_
        refine XM_get (k := 17) (v := .int (σ 17 0)) C rfl fwMo_167 dMo_close_125 ?_
        refine XM_if_ne (tgt := 144) C dMo_close_128 (by decide) (fun c14 => ?_) (fun c14 => ?_)
        · rw [if_neg c14] at hR
          refine XM_iconst (v := 1) C dMo_close_144 rfl ?_
          refine XM_goto (tgt := 149) C dMo_close_145 (by decide) ?_
          refine XM_put (k := 17) C rfl fwMo_167 rfl rfl rfl dMo_close_149 ?_
          obtain ⟨s15, es15, hR⟩ := b_bnd hR
          rw [← es15]
          refine XM_iinc (v := x1 + 1) (lv' := [(1, .int (x1 + 1)), (0, .ref (M.1))]) C dMo_close_152 rfl rfl (by decide) rfl ?_
          refine XM_goto (tgt := 115) C dMo_close_155 (by decide) ?_
          refine XM_sub (lv' := [(0, .ref (M.1)), (1, .int (x1 + 1))]) [1, 0] rfl ?_
          exact (ih (x1 + 1) 0 0 0 _ _ _).2.2.2.2 hR
        · rw [if_pos c14] at hR
          refine XM_aload_n C dMo_close_131 rfl ?_
          refine XM_get (k := 15) (v := .ref (M.2.1 15)) C rfl fwMo_49 dMo_close_132 ?_
          refine XM_bipush (v := 6) C dMo_close_135 (by decide) ?_
          refine XM_iload_n C dMo_close_137 rfl ?_
          refine XM_imul C dMo_close_138 ?_
          obtain ⟨q16, hR⟩ := o_if hR
          refine XM_iald (k := 15) (n := 25) C rfl (xin_vp q16) dMo_close_139 ?_
          refine XM_iconst (v := 1) C dMo_close_140 rfl ?_
          refine XM_icmp_ge (tgt := 148) C dMo_close_141 (by decide) (fun c17 => ?_) (fun c17 => ?_)
          · rw [if_pos c17] at hR
            refine XM_iconst (v := 0) C dMo_close_148 rfl ?_
            refine XM_put (k := 17) C rfl fwMo_167 rfl rfl rfl dMo_close_149 ?_
            obtain ⟨s18, es18, hR⟩ := b_bnd hR
            rw [← es18]
            refine XM_iinc (v := x1 + 1) (lv' := [(1, .int (x1 + 1)), (0, .ref (M.1))]) C dMo_close_152 rfl rfl (by decide) rfl ?_
            refine XM_goto (tgt := 115) C dMo_close_155 (by decide) ?_
            refine XM_sub (lv' := [(0, .ref (M.1)), (1, .int (x1 + 1))]) [1, 0] rfl ?_
            exact (ih (x1 + 1) 0 0 0 _ _ _).2.2.2.2 hR
          · rw [if_neg c17] at hR
            refine XM_iconst (v := 1) C dMo_close_144 rfl ?_
            refine XM_goto (tgt := 149) C dMo_close_145 (by decide) ?_
            refine XM_put (k := 17) C rfl fwMo_167 rfl rfl rfl dMo_close_149 ?_
            obtain ⟨s19, es19, hR⟩ := b_bnd hR
            rw [← es19]
            refine XM_iinc (v := x1 + 1) (lv' := [(1, .int (x1 + 1)), (0, .ref (M.1))]) C dMo_close_152 rfl rfl (by decide) rfl ?_
            refine XM_goto (tgt := 115) C dMo_close_155 (by decide) ?_
            refine XM_sub (lv' := [(0, .ref (M.1)), (1, .int (x1 + 1))]) [1, 0] rfl ?_
            exact (ih (x1 + 1) 0 0 0 _ _ _).2.2.2.2 hR
theorem Mo_close_c {l : Launch} {G : xG} {B : Nat} {M : xM} {n : Nat} {σ : mS} {τ : mL} {R : Int32 × mS × mL} (hR : Mo_close_f n 0 0 0 0 0 σ τ = some R) : mCon l yMo_close cMo_close 5 none 2 43 G B M [.ref M.1] σ τ none R.2.1 R.2.2 := mCon.of (by decide) (Nat.le_of_ble_eq_true rfl) (fun F e C hr => XM_sub (lv' := [(0, .ref (M.1))]) [0] rfl ((Mo_close_x C hr n 0 0 0 0 σ τ R).1 hR))
