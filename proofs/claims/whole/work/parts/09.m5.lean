def Mo_isShelf_f (x0 : Int32) : Int32 := (if x0 < 0 then (0 : Int32) else (if (8 : Int32) ≤ x0 then (0 : Int32) else (1 : Int32)))
set_option maxRecDepth 100000 in
set_option maxHeartbeats 4000000 in
theorem Mo_isShelf_c {l : Launch} {G : xG} {B : Nat} (x0 : Int32) : pCon l yMo_isShelf cMo_isShelf 1 (some .boolean) 0 0 G B [.int (x0)] (some (.int (Mo_isShelf_f x0))) := by
  refine pCon.of (by decide) (Nat.le_of_ble_eq_true rfl) (fun F h sz e C hr => ?_)
  subst e
  obtain ⟨R, hR⟩ : ∃ R, Mo_isShelf_f x0 = R := ⟨_, rfl⟩
  rw [hR]
  unfold Mo_isShelf_f at hR
  refine X_sub (lv' := [(0, .int (x0))]) [0] rfl ?_
  refine X_iload_n C dMo_isShelf_0 rfl ?_
  refine X_if_lt (tgt := 14) C dMo_isShelf_1 (by decide) (fun c1 => ?_) (fun c1 => ?_)
  · rw [if_pos c1] at hR
    refine X_iconst (v := 0) C dMo_isShelf_14 rfl ?_
    subst hR
    exact X_zret C hr rfl (Nat.le_refl _) (Nat.le_refl _) dMo_isShelf_15 ⟨rfl, rfl, rfl⟩
  · rw [if_neg c1] at hR
    refine X_iload_n C dMo_isShelf_4 rfl ?_
    refine X_bipush (v := 8) C dMo_isShelf_5 (by decide) ?_
    refine X_icmp_ge (tgt := 14) C dMo_isShelf_7 (by decide) (fun c2 => ?_) (fun c2 => ?_)
    · rw [if_pos c2] at hR
      refine X_iconst (v := 0) C dMo_isShelf_14 rfl ?_
      subst hR
      exact X_zret C hr rfl (Nat.le_refl _) (Nat.le_refl _) dMo_isShelf_15 ⟨rfl, rfl, rfl⟩
    · rw [if_neg c2] at hR
      refine X_iconst (v := 1) C dMo_isShelf_10 rfl ?_
      refine X_goto (tgt := 15) C dMo_isShelf_11 (by decide) ?_
      subst hR
      exact X_zret C hr rfl (Nat.le_refl _) (Nat.le_refl _) dMo_isShelf_15 ⟨rfl, rfl, rfl⟩
def Mo_canKeep_f (n : Nat) (x1 : Int32) (x2 : Int32) (x3 : Int32) (σ : mS) (τ : mL) : Option (Int32 × mS × mL) := (if x1 = 0 then some ((1 : Int32), σ, τ) else (if x1 = 1 then obd (Mo_isWay_f n (x2) (x3) σ τ) (fun r3 => (if zb (r3.1) = true then some (r3.1, r3.2.1, r3.2.2) else none)) else (if x1 = 2 then obd (Mo_isPlace_f n (x2) (x3) σ τ) (fun r6 => (if zb (r6.1) = true then some (r6.1, r6.2.1, r6.2.2) else none)) else (if x1 = 3 then (if zb (σ 21 0) = true then some (σ 21 0, σ, τ) else none) else (if x1 = (4 : Int32) then obd (Mo_isState_f n (x3) σ τ) (fun r11 => (if r11.1 = 0 then some ((0 : Int32), r11.2.1, r11.2.2) else some ((1 : Int32), r11.2.1, r11.2.2))) else some ((0 : Int32), σ, τ))))))
set_option maxRecDepth 100000 in
set_option maxHeartbeats 8000000 in
theorem Mo_canKeep_x {F : xF} {G : xG} {B : Nat} {M : xM} (C : xC F G B cMo_canKeep RMo 4 2 43 0 0) (hr : (xFM F).sig.returnType = (some .boolean)) {n : Nat} {x1 x2 x3 : Int32} {σ : mS} {τ : mL} {R : Int32 × mS × mL} (hR : Mo_canKeep_f n x1 x2 x3 σ τ = some R) : XM F G B (xZ F G B (mP M (some (.int R.1)) R.2.1 R.2.2) 0 0) 4 M σ τ 0 [(0, .ref (M.1)), (1, .int (x1)), (2, .int (x2)), (3, .int (x3))] [] := by
  unfold Mo_canKeep_f at hR
  refine XM_iload_n C dMo_canKeep_0 rfl ?_
  by_cases c1 : x1 = 0
  · rw [if_pos c1] at hR
    refine XM_tableIn (off := 31) (tgt := 32) C dMo_canKeep_1 (by rw [c1]; decide) (by rw [c1]; decide) (by rw [c1]; rfl) (by decide) ?_
    refine XM_iconst (v := 1) C dMo_canKeep_32 rfl ?_
    have hR := Option.some.inj hR
    subst hR
    exact XM_zret C hr rfl dMo_canKeep_33 rfl rfl rfl
  · rw [if_neg c1] at hR
    by_cases c2 : x1 = 1
    · rw [if_pos c2] at hR
      refine XM_tableIn (off := 33) (tgt := 34) C dMo_canKeep_1 (by rw [c2]; decide) (by rw [c2]; decide) (by rw [c2]; rfl) (by decide) ?_
      refine XM_aload_n C dMo_canKeep_34 rfl ?_
      refine XM_iload_n C dMo_canKeep_35 rfl ?_
      refine XM_iload_n C dMo_canKeep_36 rfl ?_
      obtain ⟨r3, hr3, hR⟩ := o_bind hR
      refine XM_callVi (As := [.int (x2), .int (x3)]) (rest := []) C (Mo_isWay_c hr3) wMo_157 ⟨by decide, by decide⟩ rfl rfl (Nat.le_of_ble_eq_true rfl) dMo_canKeep_37 ?_
      obtain ⟨b4, hR⟩ := o_if hR
      have hR := Option.some.inj hR
      subst hR
      exact XM_zret C hr (zb_n b4) dMo_canKeep_40 rfl rfl rfl
    · rw [if_neg c2] at hR
      by_cases c5 : x1 = 2
      · rw [if_pos c5] at hR
        refine XM_tableIn (off := 40) (tgt := 41) C dMo_canKeep_1 (by rw [c5]; decide) (by rw [c5]; decide) (by rw [c5]; rfl) (by decide) ?_
        refine XM_aload_n C dMo_canKeep_41 rfl ?_
        refine XM_iload_n C dMo_canKeep_42 rfl ?_
        refine XM_iload_n C dMo_canKeep_43 rfl ?_
        obtain ⟨r6, hr6, hR⟩ := o_bind hR
        refine XM_callVi (As := [.int (x2), .int (x3)]) (rest := []) C (Mo_isPlace_c hr6) wMo_135 ⟨by decide, by decide⟩ rfl rfl (Nat.le_of_ble_eq_true rfl) dMo_canKeep_44 ?_
        obtain ⟨b7, hR⟩ := o_if hR
        have hR := Option.some.inj hR
        subst hR
        exact XM_zret C hr (zb_n b7) dMo_canKeep_47 rfl rfl rfl
      · rw [if_neg c5] at hR
        by_cases c8 : x1 = 3
        · rw [if_pos c8] at hR
          refine XM_tableIn (off := 47) (tgt := 48) C dMo_canKeep_1 (by rw [c8]; decide) (by rw [c8]; decide) (by rw [c8]; rfl) (by decide) ?_
          refine XM_aload_n C dMo_canKeep_48 rfl ?_
          refine XM_get (k := 21) (v := .int (σ 21 0)) C rfl fwMo_260 dMo_canKeep_49 ?_
          obtain ⟨b9, hR⟩ := o_if hR
          have hR := Option.some.inj hR
          subst hR
          exact XM_zret C hr (zb_n b9) dMo_canKeep_52 rfl rfl rfl
        · rw [if_neg c8] at hR
          have ec1 := lv_neT (a := 0) c1 (by decide)
          have ec2 := lv_neT (a := 1) c2 (by decide)
          have ec5 := lv_neT (a := 2) c5 (by decide)
          have ec8 := lv_neT (a := 3) c8 (by decide)
          refine XM_tableOut (tgt := 53) C dMo_canKeep_1 (by omega) (by decide) ?_
          refine XM_iload_n C dMo_canKeep_53 rfl ?_
          refine XM_iconst (v := 4) C dMo_canKeep_54 rfl ?_
          refine XM_icmp_ne (tgt := 70) C dMo_canKeep_55 (by decide) (fun c10 => ?_) (fun c10 => ?_)
          · rw [if_neg c10] at hR
            refine XM_iconst (v := 0) C dMo_canKeep_70 rfl ?_
            have hR := Option.some.inj hR
            subst hR
            exact XM_zret C hr rfl dMo_canKeep_71 rfl rfl rfl
          · rw [if_pos c10] at hR
            refine XM_aload_n C dMo_canKeep_58 rfl ?_
            refine XM_iload_n C dMo_canKeep_59 rfl ?_
            obtain ⟨r11, hr11, hR⟩ := o_bind hR
            refine XM_callVi (As := [.int (x3)]) (rest := []) C (Mo_isState_c hr11) wMo_275 ⟨by decide, by decide⟩ rfl rfl (Nat.le_of_ble_eq_true rfl) dMo_canKeep_60 ?_
            refine XM_if_eq (tgt := 70) C dMo_canKeep_63 (by decide) (fun c12 => ?_) (fun c12 => ?_)
            · rw [if_pos c12] at hR
              refine XM_iconst (v := 0) C dMo_canKeep_70 rfl ?_
              have hR := Option.some.inj hR
              subst hR
              exact XM_zret C hr rfl dMo_canKeep_71 rfl rfl rfl
            · rw [if_neg c12] at hR
              refine XM_iconst (v := 1) C dMo_canKeep_66 rfl ?_
              refine XM_goto (tgt := 71) C dMo_canKeep_67 (by decide) ?_
              have hR := Option.some.inj hR
              subst hR
              exact XM_zret C hr rfl dMo_canKeep_71 rfl rfl rfl
theorem Mo_canKeep_c {l : Launch} {G : xG} {B : Nat} {M : xM} {n : Nat} {x1 x2 x3 : Int32} {σ : mS} {τ : mL} {R : Int32 × mS × mL} (hR : Mo_canKeep_f n x1 x2 x3 σ τ = some R) : mCon l yMo_canKeep cMo_canKeep 4 (some .boolean) 2 43 G B M [.ref M.1, .int x1, .int x2, .int x3] σ τ (some (.int R.1)) R.2.1 R.2.2 := mCon.of (by decide) (Nat.le_of_ble_eq_true rfl) (fun F e C hr => XM_sub (lv' := [(0, .ref (M.1)), (1, .int (x1)), (2, .int (x2)), (3, .int (x3))]) [0, 1, 2, 3] rfl (Mo_canKeep_x C hr hR))
def Mo_make_t0 (f : Nat → Int32 → Int32 → Int32 → Int32 → mS → mL → Option (Int32 × mS × mL)) (n : Nat) (x1 : Int32) (x2 : Int32) (x3 : Int32) (x4 : Int32) (σ : mS) (τ : mL) : Option (Int32 × mS × mL) := bnd (su σ 0 0 ((0 : Int32))) (fun s1 => (if Mo_isShelf_f (x1) = 0 then some (((-1) : Int32), s1, τ) else (if Mo_isIn_f (Int32.toInt64 (x2)) ((3 : Int64)) ((4 : Int64)) = 0 then some (((-1) : Int32), s1, τ) else (if x3 ≤ (60 : Int32) then (if 0 ≤ x3 then (if xin (x1) 8 = true then bnd (su s1 46 (Int32.toNatClampNeg (x1)) (x2)) (fun s7 => (if xin (x1) 8 = true then bnd (su s7 47 (Int32.toNatClampNeg (x1)) (x3)) (fun s9 => f 58 (x1) (x2) (x3) ((0 : Int32)) s9 τ) else none)) else none) else some (((-14) : Int32), s1, τ)) else some (((-1) : Int32), s1, τ)))))
def Mo_make_t58 (f : Nat → Int32 → Int32 → Int32 → Int32 → mS → mL → Option (Int32 × mS × mL)) (n : Nat) (x1 : Int32) (x2 : Int32) (x3 : Int32) (x4 : Int32) (σ : mS) (τ : mL) : Option (Int32 × mS × mL) := (if x3 ≤ x4 then some ((0 : Int32), σ, τ) else (if xin ((((60 : Int32)) * (x1)) + (x4)) 480 = true then bnd (sl τ 50 (Int32.toNatClampNeg ((((60 : Int32)) * (x1)) + (x4))) ((0 : Int64))) (fun t12 => f 58 (x1) (x2) (x3) (x4 + 1) σ t12) else none))
def Mo_make_f : Nat → Nat → Int32 → Int32 → Int32 → Int32 → mS → mL → Option (Int32 × mS × mL)
  | 0 => fun _ _ _ _ _ _ _ => none
  | n + 1 => fun p x1 x2 x3 x4 σ τ => if p = 0 then Mo_make_t0 (Mo_make_f n) n x1 x2 x3 x4 σ τ else if p = 58 then Mo_make_t58 (Mo_make_f n) n x1 x2 x3 x4 σ τ else none
theorem Mo_make_e0 (n : Nat) (x1 : Int32) (x2 : Int32) (x3 : Int32) (x4 : Int32) (σ : mS) (τ : mL) : Mo_make_f (n + 1) 0 x1 x2 x3 x4 σ τ = Mo_make_t0 (Mo_make_f n) n x1 x2 x3 x4 σ τ := by
  show (if 0 = 0 then Mo_make_t0 (Mo_make_f n) n x1 x2 x3 x4 σ τ else if 0 = 58 then Mo_make_t58 (Mo_make_f n) n x1 x2 x3 x4 σ τ else none) = _
  rw [if_pos rfl]
theorem Mo_make_e58 (n : Nat) (x1 : Int32) (x2 : Int32) (x3 : Int32) (x4 : Int32) (σ : mS) (τ : mL) : Mo_make_f (n + 1) 58 x1 x2 x3 x4 σ τ = Mo_make_t58 (Mo_make_f n) n x1 x2 x3 x4 σ τ := by
  show (if 58 = 0 then Mo_make_t0 (Mo_make_f n) n x1 x2 x3 x4 σ τ else if 58 = 58 then Mo_make_t58 (Mo_make_f n) n x1 x2 x3 x4 σ τ else none) = _
  rw [if_neg (by decide), if_pos rfl]
set_option maxRecDepth 100000 in
set_option maxHeartbeats 8000000 in
theorem Mo_make_x {F : xF} {G : xG} {B : Nat} {M : xM} (C : xC F G B cMo_make RMo 5 1 25 0 0) (hr : (xFM F).sig.returnType = (some .int)) : ∀ (n : Nat) (x1 : Int32) (x2 : Int32) (x3 : Int32) (x4 : Int32) (σ : mS) (τ : mL) (R : Int32 × mS × mL), (Mo_make_f n 0 x1 x2 x3 x4 σ τ = some R → XM F G B (xZ F G B (mP M (some (.int R.1)) R.2.1 R.2.2) 0 0) 5 M σ τ 0 [(0, .ref (M.1)), (1, .int (x1)), (2, .int (x2)), (3, .int (x3))] []) ∧ (Mo_make_f n 58 x1 x2 x3 x4 σ τ = some R → XM F G B (xZ F G B (mP M (some (.int R.1)) R.2.1 R.2.2) 0 0) 5 M σ τ 58 [(0, .ref (M.1)), (1, .int (x1)), (2, .int (x2)), (3, .int (x3)), (4, .int (x4))] []) := by
  intro n
  induction n with
  | zero => exact fun _ _ _ _ _ _ _ => ⟨(fun hR => nomatch (show (none : Option _) = some _ from hR)), (fun hR => nomatch (show (none : Option _) = some _ from hR))⟩
  | succ n ih =>
    intro x1 x2 x3 x4 σ τ R
    refine ⟨fun hR => ?_, fun hR => ?_⟩
    · rw [Mo_make_e0] at hR
      unfold Mo_make_t0 at hR
      refine XM_aload_n C dMo_make_0 rfl ?_
      refine XM_iconst (v := 0) C dMo_make_1 rfl ?_
      refine XM_put (k := 0) C rfl fwMo_124 rfl rfl rfl dMo_make_2 ?_
      obtain ⟨s1, es1, hR⟩ := b_bnd hR
      rw [← es1]
      refine XM_iload_n C dMo_make_5 rfl ?_
      refine XM_callSi (As := [.int (x1)]) (rest := []) C (Mo_isShelf_c (x1)) wMo_301 ⟨by decide, by decide⟩ rfl rfl (Nat.le_of_ble_eq_true rfl) dMo_make_6 ?_
      refine XM_if_eq (tgt := 32) C dMo_make_9 (by decide) (fun c2 => ?_) (fun c2 => ?_)
      · rw [if_pos c2] at hR
        refine XM_iconst (v := (-1)) C dMo_make_32 rfl ?_
        have hR := Option.some.inj hR
        subst hR
        exact XM_iret C hr dMo_make_33 rfl rfl rfl
      · rw [if_neg c2] at hR
        refine XM_iload_n C dMo_make_12 rfl ?_
        refine XM_i2l C dMo_make_13 ?_
        refine XM_ldc2 (v := 3) C kMo_139 dMo_make_14 ?_
        refine XM_ldc2 (v := 4) C kMo_308 dMo_make_17 ?_
        refine XM_callSi (As := [.long (Int32.toInt64 (x2)), .long ((3 : Int64)), .long ((4 : Int64))]) (rest := []) C (Mo_isIn_c (Int32.toInt64 (x2)) ((3 : Int64)) ((4 : Int64))) wMo_141 ⟨by decide, by decide⟩ rfl rfl (Nat.le_of_ble_eq_true rfl) dMo_make_20 ?_
        refine XM_if_eq (tgt := 32) C dMo_make_23 (by decide) (fun c3 => ?_) (fun c3 => ?_)
        · rw [if_pos c3] at hR
          refine XM_iconst (v := (-1)) C dMo_make_32 rfl ?_
          have hR := Option.some.inj hR
          subst hR
          exact XM_iret C hr dMo_make_33 rfl rfl rfl
        · rw [if_neg c3] at hR
          refine XM_iload_n C dMo_make_26 rfl ?_
          refine XM_bipush (v := 60) C dMo_make_27 (by decide) ?_
          refine XM_icmp_le (tgt := 34) C dMo_make_29 (by decide) (fun c4 => ?_) (fun c4 => ?_)
          · rw [if_pos c4] at hR
            refine XM_iload_n C dMo_make_34 rfl ?_
            refine XM_if_ge (tgt := 41) C dMo_make_35 (by decide) (fun c5 => ?_) (fun c5 => ?_)
            · rw [if_pos c5] at hR
              refine XM_aload_n C dMo_make_41 rfl ?_
              refine XM_get (k := 46) (v := .ref (M.2.1 46)) C rfl fwMo_101 dMo_make_42 ?_
              refine XM_iload_n C dMo_make_45 rfl ?_
              refine XM_iload_n C dMo_make_46 rfl ?_
              obtain ⟨q6, hR⟩ := o_if hR
              refine XM_iast (k := 46) (n := 8) C rfl (xin_vp q6) dMo_make_47 ?_
              obtain ⟨s7, es7, hR⟩ := b_bnd hR
              rw [← es7]
              refine XM_aload_n C dMo_make_48 rfl ?_
              refine XM_get (k := 47) (v := .ref (M.2.1 47)) C rfl fwMo_104 dMo_make_49 ?_
              refine XM_iload_n C dMo_make_52 rfl ?_
              refine XM_iload_n C dMo_make_53 rfl ?_
              obtain ⟨q8, hR⟩ := o_if hR
              refine XM_iast (k := 47) (n := 8) C rfl (xin_vp q8) dMo_make_54 ?_
              obtain ⟨s9, es9, hR⟩ := b_bnd hR
              rw [← es9]
              refine XM_iconst (v := 0) C dMo_make_55 rfl ?_
              refine XM_istore (lv' := [(4, .int ((0 : Int32))), (0, .ref (M.1)), (1, .int (x1)), (2, .int (x2)), (3, .int (x3))]) C dMo_make_56 (by decide) rfl ?_
              refine XM_sub (lv' := [(0, .ref (M.1)), (1, .int (x1)), (2, .int (x2)), (3, .int (x3)), (4, .int ((0 : Int32)))]) [1, 2, 3, 4, 0] rfl ?_
              exact (ih (x1) (x2) (x3) ((0 : Int32)) _ _ _).2 hR
            · rw [if_neg c5] at hR
              refine XM_bipush (v := (-14)) C dMo_make_38 (by decide) ?_
              have hR := Option.some.inj hR
              subst hR
              exact XM_iret C hr dMo_make_40 rfl rfl rfl
          · rw [if_neg c4] at hR
            refine XM_iconst (v := (-1)) C dMo_make_32 rfl ?_
            have hR := Option.some.inj hR
            subst hR
            exact XM_iret C hr dMo_make_33 rfl rfl rfl
    · rw [Mo_make_e58] at hR
      unfold Mo_make_t58 at hR
      refine XM_iload C dMo_make_58 rfl ?_
      refine XM_iload_n C dMo_make_60 rfl ?_
      refine XM_icmp_ge (tgt := 83) C dMo_make_61 (by decide) (fun c10 => ?_) (fun c10 => ?_)
      · rw [if_pos c10] at hR
        refine XM_iconst (v := 0) C dMo_make_83 rfl ?_
        have hR := Option.some.inj hR
        subst hR
        exact XM_iret C hr dMo_make_84 rfl rfl rfl
      · rw [if_neg c10] at hR
        refine XM_aload_n C dMo_make_64 rfl ?_
        refine XM_get (k := 50) (v := .ref (M.2.1 50)) C rfl fwMo_113 dMo_make_65 ?_
        refine XM_bipush (v := 60) C dMo_make_68 (by decide) ?_
        refine XM_iload_n C dMo_make_70 rfl ?_
        refine XM_imul C dMo_make_71 ?_
        refine XM_iload C dMo_make_72 rfl ?_
        refine XM_iadd C dMo_make_74 ?_
        refine XM_lconst (v := 0) C dMo_make_75 rfl ?_
        obtain ⟨q11, hR⟩ := o_if hR
        refine XM_last (k := 50) (n := 480) C rfl (xin_vp q11) dMo_make_76 ?_
        obtain ⟨t12, et12, hR⟩ := b_bnd hR
        rw [← et12]
        refine XM_iinc (v := x4 + 1) (lv' := [(4, .int (x4 + 1)), (0, .ref (M.1)), (1, .int (x1)), (2, .int (x2)), (3, .int (x3))]) C dMo_make_77 rfl rfl (by decide) rfl ?_
        refine XM_goto (tgt := 58) C dMo_make_80 (by decide) ?_
        refine XM_sub (lv' := [(0, .ref (M.1)), (1, .int (x1)), (2, .int (x2)), (3, .int (x3)), (4, .int (x4 + 1))]) [1, 2, 3, 4, 0] rfl ?_
        exact (ih (x1) (x2) (x3) (x4 + 1) _ _ _).2 hR
theorem Mo_make_c {l : Launch} {G : xG} {B : Nat} {M : xM} {n : Nat} {x1 x2 x3 : Int32} {σ : mS} {τ : mL} {R : Int32 × mS × mL} (hR : Mo_make_f n 0 x1 x2 x3 0 σ τ = some R) : mCon l yMo_make cMo_make 5 (some .int) 1 25 G B M [.ref M.1, .int x1, .int x2, .int x3] σ τ (some (.int R.1)) R.2.1 R.2.2 := mCon.of (by decide) (Nat.le_of_ble_eq_true rfl) (fun F e C hr => XM_sub (lv' := [(0, .ref (M.1)), (1, .int (x1)), (2, .int (x2)), (3, .int (x3))]) [0, 1, 2, 3] rfl ((Mo_make_x C hr n x1 x2 x3 0 σ τ R).1 hR))
def Mo_element_f (n : Nat) (x1 : Int32) (x2 : Int32) (σ : mS) (τ : mL) : Option (Int64 × mS × mL) := (if Mo_isShelf_f (x1) = 0 then (if Mo_isShelf_f (x1) = 0 then bnd (su σ 0 0 ((1 : Int32))) (fun s4 => some ((0 : Int64), s4, τ)) else bnd (su σ 0 0 ((2 : Int32))) (fun s3 => some ((0 : Int64), s3, τ))) else (if xin (x1) 8 = true then (if σ 46 (Int32.toNatClampNeg (x1)) ≤ (2 : Int32) then (if Mo_isShelf_f (x1) = 0 then bnd (su σ 0 0 ((1 : Int32))) (fun s9 => some ((0 : Int64), s9, τ)) else bnd (su σ 0 0 ((2 : Int32))) (fun s8 => some ((0 : Int64), s8, τ))) else (if xin (x1) 8 = true then (if Mo_isIn_f (Int32.toInt64 (x2)) ((0 : Int64)) (Int32.toInt64 ((σ 47 (Int32.toNatClampNeg (x1))) - ((1 : Int32)))) = 0 then (if Mo_isShelf_f (x1) = 0 then bnd (su σ 0 0 ((1 : Int32))) (fun s14 => some ((0 : Int64), s14, τ)) else bnd (su σ 0 0 ((2 : Int32))) (fun s13 => some ((0 : Int64), s13, τ))) else (if Mo_isShelf_f (x1) = 0 then bnd (su σ 0 0 ((1 : Int32))) (fun s18 => (if xin ((((60 : Int32)) * (x1)) + (x2)) 480 = true then some (τ 50 (Int32.toNatClampNeg ((((60 : Int32)) * (x1)) + (x2))), s18, τ) else none)) else bnd (su σ 0 0 ((0 : Int32))) (fun s16 => (if xin ((((60 : Int32)) * (x1)) + (x2)) 480 = true then some (τ 50 (Int32.toNatClampNeg ((((60 : Int32)) * (x1)) + (x2))), s16, τ) else none)))) else none)) else none))
set_option maxRecDepth 100000 in
set_option maxHeartbeats 8000000 in
theorem Mo_element_x {F : xF} {G : xG} {B : Nat} {M : xM} (C : xC F G B cMo_element RMo 4 1 25 0 0) (hr : (xFM F).sig.returnType = (some .long)) {n : Nat} {x1 x2 : Int32} {σ : mS} {τ : mL} {R : Int64 × mS × mL} (hR : Mo_element_f n x1 x2 σ τ = some R) : XM F G B (xZ F G B (mP M (some (.long R.1)) R.2.1 R.2.2) 0 0) 4 M σ τ 0 [(0, .ref (M.1)), (1, .int (x1)), (2, .int (x2))] [] := by
  unfold Mo_element_f at hR
  refine XM_iload_n C dMo_element_0 rfl ?_
  refine XM_callSi (As := [.int (x1)]) (rest := []) C (Mo_isShelf_c (x1)) wMo_301 ⟨by decide, by decide⟩ rfl rfl (Nat.le_of_ble_eq_true rfl) dMo_element_1 ?_
  refine XM_if_eq (tgt := 39) C dMo_element_4 (by decide) (fun c1 => ?_) (fun c1 => ?_)
  · rw [if_pos c1] at hR
    refine XM_iconst (v := 0) C dMo_element_39 rfl ?_
    refine XM_istore_n (lv' := [(3, .int ((0 : Int32))), (0, .ref (M.1)), (1, .int (x1)), (2, .int (x2))]) C dMo_element_40 (by decide) rfl ?_
    refine XM_aload_n C dMo_element_41 rfl ?_
    refine XM_iload_n C dMo_element_42 rfl ?_
    refine XM_callSi (As := [.int (x1)]) (rest := [.ref (M.1)]) C (Mo_isShelf_c (x1)) wMo_301 ⟨by decide, by decide⟩ rfl rfl (Nat.le_of_ble_eq_true rfl) dMo_element_43 ?_
    refine XM_if_ne (tgt := 53) C dMo_element_46 (by decide) (fun c2 => ?_) (fun c2 => ?_)
    · rw [if_neg c2] at hR
      refine XM_iload_n C dMo_element_53 rfl ?_
      refine XM_if_eq (tgt := 61) C dMo_element_54 (by decide) (fun _ => ?_) (fun c => absurd c (by decide))
      refine XM_iconst (v := 2) C dMo_element_61 rfl ?_
      refine XM_put (k := 0) C rfl fwMo_124 rfl rfl rfl dMo_element_62 ?_
      obtain ⟨s3, es3, hR⟩ := b_bnd hR
      rw [← es3]
      refine XM_iload_n C dMo_element_65 rfl ?_
      refine XM_if_eq (tgt := 83) C dMo_element_66 (by decide) (fun _ => ?_) (fun c => absurd c (by decide))
      refine XM_lconst (v := 0) C dMo_element_83 rfl ?_
      have hR := Option.some.inj hR
      subst hR
      exact XM_lret C hr dMo_element_84 rfl rfl rfl
    · rw [if_pos c2] at hR
      refine XM_iconst (v := 1) C dMo_element_49 rfl ?_
      refine XM_goto (tgt := 62) C dMo_element_50 (by decide) ?_
      refine XM_put (k := 0) C rfl fwMo_124 rfl rfl rfl dMo_element_62 ?_
      obtain ⟨s4, es4, hR⟩ := b_bnd hR
      rw [← es4]
      refine XM_iload_n C dMo_element_65 rfl ?_
      refine XM_if_eq (tgt := 83) C dMo_element_66 (by decide) (fun _ => ?_) (fun c => absurd c (by decide))
      refine XM_lconst (v := 0) C dMo_element_83 rfl ?_
      have hR := Option.some.inj hR
      subst hR
      exact XM_lret C hr dMo_element_84 rfl rfl rfl
  · rw [if_neg c1] at hR
    refine XM_aload_n C dMo_element_7 rfl ?_
    refine XM_get (k := 46) (v := .ref (M.2.1 46)) C rfl fwMo_101 dMo_element_8 ?_
    refine XM_iload_n C dMo_element_11 rfl ?_
    obtain ⟨q5, hR⟩ := o_if hR
    refine XM_iald (k := 46) (n := 8) C rfl (xin_vp q5) dMo_element_12 ?_
    refine XM_iconst (v := 2) C dMo_element_13 rfl ?_
    refine XM_icmp_le (tgt := 39) C dMo_element_14 (by decide) (fun c6 => ?_) (fun c6 => ?_)
    · rw [if_pos c6] at hR
      refine XM_iconst (v := 0) C dMo_element_39 rfl ?_
      refine XM_istore_n (lv' := [(3, .int ((0 : Int32))), (0, .ref (M.1)), (1, .int (x1)), (2, .int (x2))]) C dMo_element_40 (by decide) rfl ?_
      refine XM_aload_n C dMo_element_41 rfl ?_
      refine XM_iload_n C dMo_element_42 rfl ?_
      refine XM_callSi (As := [.int (x1)]) (rest := [.ref (M.1)]) C (Mo_isShelf_c (x1)) wMo_301 ⟨by decide, by decide⟩ rfl rfl (Nat.le_of_ble_eq_true rfl) dMo_element_43 ?_
      refine XM_if_ne (tgt := 53) C dMo_element_46 (by decide) (fun c7 => ?_) (fun c7 => ?_)
      · rw [if_neg c7] at hR
        refine XM_iload_n C dMo_element_53 rfl ?_
        refine XM_if_eq (tgt := 61) C dMo_element_54 (by decide) (fun _ => ?_) (fun c => absurd c (by decide))
        refine XM_iconst (v := 2) C dMo_element_61 rfl ?_
        refine XM_put (k := 0) C rfl fwMo_124 rfl rfl rfl dMo_element_62 ?_
        obtain ⟨s8, es8, hR⟩ := b_bnd hR
        rw [← es8]
        refine XM_iload_n C dMo_element_65 rfl ?_
        refine XM_if_eq (tgt := 83) C dMo_element_66 (by decide) (fun _ => ?_) (fun c => absurd c (by decide))
        refine XM_lconst (v := 0) C dMo_element_83 rfl ?_
        have hR := Option.some.inj hR
        subst hR
        exact XM_lret C hr dMo_element_84 rfl rfl rfl
      · rw [if_pos c7] at hR
        refine XM_iconst (v := 1) C dMo_element_49 rfl ?_
        refine XM_goto (tgt := 62) C dMo_element_50 (by decide) ?_
        refine XM_put (k := 0) C rfl fwMo_124 rfl rfl rfl dMo_element_62 ?_
        obtain ⟨s9, es9, hR⟩ := b_bnd hR
        rw [← es9]
        refine XM_iload_n C dMo_element_65 rfl ?_
        refine XM_if_eq (tgt := 83) C dMo_element_66 (by decide) (fun _ => ?_) (fun c => absurd c (by decide))
        refine XM_lconst (v := 0) C dMo_element_83 rfl ?_
        have hR := Option.some.inj hR
        subst hR
        exact XM_lret C hr dMo_element_84 rfl rfl rfl
    · rw [if_neg c6] at hR
      refine XM_iload_n C dMo_element_17 rfl ?_
      refine XM_i2l C dMo_element_18 ?_
      refine XM_lconst (v := 0) C dMo_element_19 rfl ?_
      refine XM_aload_n C dMo_element_20 rfl ?_
      refine XM_get (k := 47) (v := .ref (M.2.1 47)) C rfl fwMo_104 dMo_element_21 ?_
      refine XM_iload_n C dMo_element_24 rfl ?_
      obtain ⟨q10, hR⟩ := o_if hR
      refine XM_iald (k := 47) (n := 8) C rfl (xin_vp q10) dMo_element_25 ?_
      refine XM_iconst (v := 1) C dMo_element_26 rfl ?_
      refine XM_isub C dMo_element_27 ?_
      refine XM_i2l C dMo_element_28 ?_
      refine XM_callSi (As := [.long (Int32.toInt64 (x2)), .long ((0 : Int64)), .long (Int32.toInt64 ((σ 47 (Int32.toNatClampNeg (x1))) - ((1 : Int32))))]) (rest := []) C (Mo_isIn_c (Int32.toInt64 (x2)) ((0 : Int64)) (Int32.toInt64 ((σ 47 (Int32.toNatClampNeg (x1))) - ((1 : Int32))))) wMo_141 ⟨by decide, by decide⟩ rfl rfl (Nat.le_of_ble_eq_true rfl) dMo_element_29 ?_
      refine XM_if_eq (tgt := 39) C dMo_element_32 (by decide) (fun c11 => ?_) (fun c11 => ?_)
      · rw [if_pos c11] at hR
        refine XM_iconst (v := 0) C dMo_element_39 rfl ?_
        refine XM_istore_n (lv' := [(3, .int ((0 : Int32))), (0, .ref (M.1)), (1, .int (x1)), (2, .int (x2))]) C dMo_element_40 (by decide) rfl ?_
        refine XM_aload_n C dMo_element_41 rfl ?_
        refine XM_iload_n C dMo_element_42 rfl ?_
        refine XM_callSi (As := [.int (x1)]) (rest := [.ref (M.1)]) C (Mo_isShelf_c (x1)) wMo_301 ⟨by decide, by decide⟩ rfl rfl (Nat.le_of_ble_eq_true rfl) dMo_element_43 ?_
        refine XM_if_ne (tgt := 53) C dMo_element_46 (by decide) (fun c12 => ?_) (fun c12 => ?_)
        · rw [if_neg c12] at hR
          refine XM_iload_n C dMo_element_53 rfl ?_
          refine XM_if_eq (tgt := 61) C dMo_element_54 (by decide) (fun _ => ?_) (fun c => absurd c (by decide))
          refine XM_iconst (v := 2) C dMo_element_61 rfl ?_
          refine XM_put (k := 0) C rfl fwMo_124 rfl rfl rfl dMo_element_62 ?_
          obtain ⟨s13, es13, hR⟩ := b_bnd hR
          rw [← es13]
          refine XM_iload_n C dMo_element_65 rfl ?_
          refine XM_if_eq (tgt := 83) C dMo_element_66 (by decide) (fun _ => ?_) (fun c => absurd c (by decide))
          refine XM_lconst (v := 0) C dMo_element_83 rfl ?_
          have hR := Option.some.inj hR
          subst hR
          exact XM_lret C hr dMo_element_84 rfl rfl rfl
        · rw [if_pos c12] at hR
          refine XM_iconst (v := 1) C dMo_element_49 rfl ?_
          refine XM_goto (tgt := 62) C dMo_element_50 (by decide) ?_
          refine XM_put (k := 0) C rfl fwMo_124 rfl rfl rfl dMo_element_62 ?_
          obtain ⟨s14, es14, hR⟩ := b_bnd hR
          rw [← es14]
          refine XM_iload_n C dMo_element_65 rfl ?_
          refine XM_if_eq (tgt := 83) C dMo_element_66 (by decide) (fun _ => ?_) (fun c => absurd c (by decide))
          refine XM_lconst (v := 0) C dMo_element_83 rfl ?_
          have hR := Option.some.inj hR
          subst hR
          exact XM_lret C hr dMo_element_84 rfl rfl rfl
      · rw [if_neg c11] at hR
        refine XM_iconst (v := 1) C dMo_element_35 rfl ?_
        refine XM_goto (tgt := 40) C dMo_element_36 (by decide) ?_
        refine XM_istore_n (lv' := [(3, .int ((1 : Int32))), (0, .ref (M.1)), (1, .int (x1)), (2, .int (x2))]) C dMo_element_40 (by decide) rfl ?_
        refine XM_aload_n C dMo_element_41 rfl ?_
        refine XM_iload_n C dMo_element_42 rfl ?_
        refine XM_callSi (As := [.int (x1)]) (rest := [.ref (M.1)]) C (Mo_isShelf_c (x1)) wMo_301 ⟨by decide, by decide⟩ rfl rfl (Nat.le_of_ble_eq_true rfl) dMo_element_43 ?_
        refine XM_if_ne (tgt := 53) C dMo_element_46 (by decide) (fun c15 => ?_) (fun c15 => ?_)
        · rw [if_neg c15] at hR
          refine XM_iload_n C dMo_element_53 rfl ?_
          refine XM_if_eq (tgt := 61) C dMo_element_54 (by decide) (fun c => absurd c (by decide)) (fun _ => ?_)
          refine XM_iconst (v := 0) C dMo_element_57 rfl ?_
          refine XM_goto (tgt := 62) C dMo_element_58 (by decide) ?_
          refine XM_put (k := 0) C rfl fwMo_124 rfl rfl rfl dMo_element_62 ?_
          obtain ⟨s16, es16, hR⟩ := b_bnd hR
          rw [← es16]
          refine XM_iload_n C dMo_element_65 rfl ?_
          refine XM_if_eq (tgt := 83) C dMo_element_66 (by decide) (fun c => absurd c (by decide)) (fun _ => ?_)
          refine XM_aload_n C dMo_element_69 rfl ?_
          refine XM_get (k := 50) (v := .ref (M.2.1 50)) C rfl fwMo_113 dMo_element_70 ?_
          refine XM_bipush (v := 60) C dMo_element_73 (by decide) ?_
          refine XM_iload_n C dMo_element_75 rfl ?_
          refine XM_imul C dMo_element_76 ?_
          refine XM_iload_n C dMo_element_77 rfl ?_
          refine XM_iadd C dMo_element_78 ?_
          obtain ⟨q17, hR⟩ := o_if hR
          refine XM_lald (k := 50) (n := 480) C rfl (xin_vp q17) dMo_element_79 ?_
          refine XM_goto (tgt := 84) C dMo_element_80 (by decide) ?_
          have hR := Option.some.inj hR
          subst hR
          exact XM_lret C hr dMo_element_84 rfl rfl rfl
        · rw [if_pos c15] at hR
          refine XM_iconst (v := 1) C dMo_element_49 rfl ?_
          refine XM_goto (tgt := 62) C dMo_element_50 (by decide) ?_
          refine XM_put (k := 0) C rfl fwMo_124 rfl rfl rfl dMo_element_62 ?_
          obtain ⟨s18, es18, hR⟩ := b_bnd hR
          rw [← es18]
          refine XM_iload_n C dMo_element_65 rfl ?_
          refine XM_if_eq (tgt := 83) C dMo_element_66 (by decide) (fun c => absurd c (by decide)) (fun _ => ?_)
          refine XM_aload_n C dMo_element_69 rfl ?_
          refine XM_get (k := 50) (v := .ref (M.2.1 50)) C rfl fwMo_113 dMo_element_70 ?_
          refine XM_bipush (v := 60) C dMo_element_73 (by decide) ?_
          refine XM_iload_n C dMo_element_75 rfl ?_
          refine XM_imul C dMo_element_76 ?_
          refine XM_iload_n C dMo_element_77 rfl ?_
          refine XM_iadd C dMo_element_78 ?_
          obtain ⟨q19, hR⟩ := o_if hR
          refine XM_lald (k := 50) (n := 480) C rfl (xin_vp q19) dMo_element_79 ?_
          refine XM_goto (tgt := 84) C dMo_element_80 (by decide) ?_
          have hR := Option.some.inj hR
          subst hR
          exact XM_lret C hr dMo_element_84 rfl rfl rfl
theorem Mo_element_c {l : Launch} {G : xG} {B : Nat} {M : xM} {n : Nat} {x1 x2 : Int32} {σ : mS} {τ : mL} {R : Int64 × mS × mL} (hR : Mo_element_f n x1 x2 σ τ = some R) : mCon l yMo_element cMo_element 4 (some .long) 1 25 G B M [.ref M.1, .int x1, .int x2] σ τ (some (.long R.1)) R.2.1 R.2.2 := mCon.of (by decide) (Nat.le_of_ble_eq_true rfl) (fun F e C hr => XM_sub (lv' := [(0, .ref (M.1)), (1, .int (x1)), (2, .int (x2))]) [0, 1, 2] rfl (Mo_element_x C hr hR))
def Mo_hasPlaces_f (n : Nat) (x1 : Int32) (x2 : Int32) (x3 : Int32) (σ : mS) (τ : mL) : Option (Int32 × mS × mL) := (if x3 < 0 then some ((0 : Int32), σ, τ) else (if x2 < 0 then some ((0 : Int32), σ, τ) else (if xin (x1) 8 = true then (if σ 47 (Int32.toNatClampNeg (x1)) < x2 then some ((0 : Int32), σ, τ) else (if xin (x1) 8 = true then (if (σ 47 (Int32.toNatClampNeg (x1))) - (x2) < x3 then some ((0 : Int32), σ, τ) else some ((1 : Int32), σ, τ)) else none)) else none)))
set_option maxRecDepth 100000 in
set_option maxHeartbeats 8000000 in
theorem Mo_hasPlaces_x {F : xF} {G : xG} {B : Nat} {M : xM} (C : xC F G B cMo_hasPlaces RMo 4 0 0 0 0) (hr : (xFM F).sig.returnType = (some .boolean)) {n : Nat} {x1 x2 x3 : Int32} {σ : mS} {τ : mL} {R : Int32 × mS × mL} (hR : Mo_hasPlaces_f n x1 x2 x3 σ τ = some R) : XM F G B (xZ F G B (mP M (some (.int R.1)) R.2.1 R.2.2) 0 0) 4 M σ τ 0 [(0, .ref (M.1)), (1, .int (x1)), (2, .int (x2)), (3, .int (x3))] [] := by
  unfold Mo_hasPlaces_f at hR
  refine XM_iload_n C dMo_hasPlaces_0 rfl ?_
  refine XM_if_lt (tgt := 34) C dMo_hasPlaces_1 (by decide) (fun c1 => ?_) (fun c1 => ?_)
  · rw [if_pos c1] at hR
    refine XM_iconst (v := 0) C dMo_hasPlaces_34 rfl ?_
    have hR := Option.some.inj hR
    subst hR
    exact XM_zret C hr rfl dMo_hasPlaces_35 rfl rfl rfl
  · rw [if_neg c1] at hR
    refine XM_iload_n C dMo_hasPlaces_4 rfl ?_
    refine XM_if_lt (tgt := 34) C dMo_hasPlaces_5 (by decide) (fun c2 => ?_) (fun c2 => ?_)
    · rw [if_pos c2] at hR
      refine XM_iconst (v := 0) C dMo_hasPlaces_34 rfl ?_
      have hR := Option.some.inj hR
      subst hR
      exact XM_zret C hr rfl dMo_hasPlaces_35 rfl rfl rfl
    · rw [if_neg c2] at hR
      refine XM_iload_n C dMo_hasPlaces_8 rfl ?_
      refine XM_aload_n C dMo_hasPlaces_9 rfl ?_
      refine XM_get (k := 47) (v := .ref (M.2.1 47)) C rfl fwMo_104 dMo_hasPlaces_10 ?_
      refine XM_iload_n C dMo_hasPlaces_13 rfl ?_
      obtain ⟨q3, hR⟩ := o_if hR
      refine XM_iald (k := 47) (n := 8) C rfl (xin_vp q3) dMo_hasPlaces_14 ?_
      refine XM_icmp_gt (tgt := 34) C dMo_hasPlaces_15 (by decide) (fun c4 => ?_) (fun c4 => ?_)
      · rw [if_pos c4] at hR
        refine XM_iconst (v := 0) C dMo_hasPlaces_34 rfl ?_
        have hR := Option.some.inj hR
        subst hR
        exact XM_zret C hr rfl dMo_hasPlaces_35 rfl rfl rfl
      · rw [if_neg c4] at hR
        refine XM_iload_n C dMo_hasPlaces_18 rfl ?_
        refine XM_aload_n C dMo_hasPlaces_19 rfl ?_
        refine XM_get (k := 47) (v := .ref (M.2.1 47)) C rfl fwMo_104 dMo_hasPlaces_20 ?_
        refine XM_iload_n C dMo_hasPlaces_23 rfl ?_
        obtain ⟨q5, hR⟩ := o_if hR
        refine XM_iald (k := 47) (n := 8) C rfl (xin_vp q5) dMo_hasPlaces_24 ?_
        refine XM_iload_n C dMo_hasPlaces_25 rfl ?_
        refine XM_isub C dMo_hasPlaces_26 ?_
        refine XM_icmp_gt (tgt := 34) C dMo_hasPlaces_27 (by decide) (fun c6 => ?_) (fun c6 => ?_)
        · rw [if_pos c6] at hR
          refine XM_iconst (v := 0) C dMo_hasPlaces_34 rfl ?_
          have hR := Option.some.inj hR
          subst hR
          exact XM_zret C hr rfl dMo_hasPlaces_35 rfl rfl rfl
        · rw [if_neg c6] at hR
          refine XM_iconst (v := 1) C dMo_hasPlaces_30 rfl ?_
          refine XM_goto (tgt := 35) C dMo_hasPlaces_31 (by decide) ?_
          have hR := Option.some.inj hR
          subst hR
          exact XM_zret C hr rfl dMo_hasPlaces_35 rfl rfl rfl
theorem Mo_hasPlaces_c {l : Launch} {G : xG} {B : Nat} {M : xM} {n : Nat} {x1 x2 x3 : Int32} {σ : mS} {τ : mL} {R : Int32 × mS × mL} (hR : Mo_hasPlaces_f n x1 x2 x3 σ τ = some R) : mCon l yMo_hasPlaces cMo_hasPlaces 4 (some .boolean) 0 0 G B M [.ref M.1, .int x1, .int x2, .int x3] σ τ (some (.int R.1)) R.2.1 R.2.2 := mCon.of (by decide) (Nat.le_of_ble_eq_true rfl) (fun F e C hr => XM_sub (lv' := [(0, .ref (M.1)), (1, .int (x1)), (2, .int (x2)), (3, .int (x3))]) [0, 1, 2, 3] rfl (Mo_hasPlaces_x C hr hR))
def Mo_copy_t0 (f : Nat → Int32 → Int32 → Int32 → Int32 → Int32 → Int32 → mS → mL → Option (Int32 × mS × mL)) (n : Nat) (x1 : Int32) (x2 : Int32) (x3 : Int32) (x4 : Int32) (x5 : Int32) (x6 : Int32) (σ : mS) (τ : mL) : Option (Int32 × mS × mL) := bnd (su σ 0 0 ((0 : Int32))) (fun s1 => (if Mo_isShelf_f (x1) = 0 then some (((-1) : Int32), s1, τ) else (if Mo_isShelf_f (x3) = 0 then some (((-1) : Int32), s1, τ) else (if xin (x1) 8 = true then (if s1 46 (Int32.toNatClampNeg (x1)) = 0 then some (((-11) : Int32), s1, τ) else (if xin (x3) 8 = true then (if s1 46 (Int32.toNatClampNeg (x3)) = 0 then some (((-11) : Int32), s1, τ) else (if xin (x1) 8 = true then (if s1 46 (Int32.toNatClampNeg (x1)) < (3 : Int32) then some (((-12) : Int32), s1, τ) else (if xin (x1) 8 = true then (if xin (x3) 8 = true then (if s1 46 (Int32.toNatClampNeg (x1)) = s1 46 (Int32.toNatClampNeg (x3)) then obd (Mo_hasPlaces_f n (x1) (x2) (x5) s1 τ) (fun r13 => (if r13.1 = 0 then some (((-13) : Int32), r13.2.1, r13.2.2) else obd (Mo_hasPlaces_f n (x3) (x4) (x5) r13.2.1 r13.2.2) (fun r15 => (if r15.1 = 0 then some (((-13) : Int32), r15.2.1, r15.2.2) else f 99 (x1) (x2) (x3) (x4) (x5) ((0 : Int32)) r15.2.1 r15.2.2)))) else some (((-12) : Int32), s1, τ)) else none) else none)) else none)) else none)) else none))))
def Mo_copy_t99 (f : Nat → Int32 → Int32 → Int32 → Int32 → Int32 → Int32 → mS → mL → Option (Int32 × mS × mL)) (n : Nat) (x1 : Int32) (x2 : Int32) (x3 : Int32) (x4 : Int32) (x5 : Int32) (x6 : Int32) (σ : mS) (τ : mL) : Option (Int32 × mS × mL) := (if x5 ≤ x6 then f 136 (x1) (x2) (x3) (x4) (x5) ((0 : Int32)) σ τ else (if xin (((((60 : Int32)) * (x1)) + (x2)) + (x6)) 480 = true then (if xin (x6) 60 = true then bnd (sl τ 51 (Int32.toNatClampNeg (x6)) (τ 50 (Int32.toNatClampNeg (((((60 : Int32)) * (x1)) + (x2)) + (x6))))) (fun t20 => f 99 (x1) (x2) (x3) (x4) (x5) (x6 + 1) σ t20) else none) else none))
def Mo_copy_t136 (f : Nat → Int32 → Int32 → Int32 → Int32 → Int32 → Int32 → mS → mL → Option (Int32 × mS × mL)) (n : Nat) (x1 : Int32) (x2 : Int32) (x3 : Int32) (x4 : Int32) (x5 : Int32) (x6 : Int32) (σ : mS) (τ : mL) : Option (Int32 × mS × mL) := (if x5 ≤ x6 then some (x5, σ, τ) else (if xin (x6) 60 = true then (if xin (((((60 : Int32)) * (x3)) + (x4)) + (x6)) 480 = true then bnd (sl τ 50 (Int32.toNatClampNeg (((((60 : Int32)) * (x3)) + (x4)) + (x6))) (τ 51 (Int32.toNatClampNeg (x6)))) (fun t24 => f 136 (x1) (x2) (x3) (x4) (x5) (x6 + 1) σ t24) else none) else none))
def Mo_copy_f : Nat → Nat → Int32 → Int32 → Int32 → Int32 → Int32 → Int32 → mS → mL → Option (Int32 × mS × mL)
  | 0 => fun _ _ _ _ _ _ _ _ _ => none
  | n + 1 => fun p x1 x2 x3 x4 x5 x6 σ τ => if p = 0 then Mo_copy_t0 (Mo_copy_f n) n x1 x2 x3 x4 x5 x6 σ τ else if p = 99 then Mo_copy_t99 (Mo_copy_f n) n x1 x2 x3 x4 x5 x6 σ τ else if p = 136 then Mo_copy_t136 (Mo_copy_f n) n x1 x2 x3 x4 x5 x6 σ τ else none
theorem Mo_copy_e0 (n : Nat) (x1 : Int32) (x2 : Int32) (x3 : Int32) (x4 : Int32) (x5 : Int32) (x6 : Int32) (σ : mS) (τ : mL) : Mo_copy_f (n + 1) 0 x1 x2 x3 x4 x5 x6 σ τ = Mo_copy_t0 (Mo_copy_f n) n x1 x2 x3 x4 x5 x6 σ τ := by
  show (if 0 = 0 then Mo_copy_t0 (Mo_copy_f n) n x1 x2 x3 x4 x5 x6 σ τ else if 0 = 99 then Mo_copy_t99 (Mo_copy_f n) n x1 x2 x3 x4 x5 x6 σ τ else if 0 = 136 then Mo_copy_t136 (Mo_copy_f n) n x1 x2 x3 x4 x5 x6 σ τ else none) = _
  rw [if_pos rfl]
theorem Mo_copy_e99 (n : Nat) (x1 : Int32) (x2 : Int32) (x3 : Int32) (x4 : Int32) (x5 : Int32) (x6 : Int32) (σ : mS) (τ : mL) : Mo_copy_f (n + 1) 99 x1 x2 x3 x4 x5 x6 σ τ = Mo_copy_t99 (Mo_copy_f n) n x1 x2 x3 x4 x5 x6 σ τ := by
  show (if 99 = 0 then Mo_copy_t0 (Mo_copy_f n) n x1 x2 x3 x4 x5 x6 σ τ else if 99 = 99 then Mo_copy_t99 (Mo_copy_f n) n x1 x2 x3 x4 x5 x6 σ τ else if 99 = 136 then Mo_copy_t136 (Mo_copy_f n) n x1 x2 x3 x4 x5 x6 σ τ else none) = _
  rw [if_neg (by decide), if_pos rfl]
theorem Mo_copy_e136 (n : Nat) (x1 : Int32) (x2 : Int32) (x3 : Int32) (x4 : Int32) (x5 : Int32) (x6 : Int32) (σ : mS) (τ : mL) : Mo_copy_f (n + 1) 136 x1 x2 x3 x4 x5 x6 σ τ = Mo_copy_t136 (Mo_copy_f n) n x1 x2 x3 x4 x5 x6 σ τ := by
  show (if 136 = 0 then Mo_copy_t0 (Mo_copy_f n) n x1 x2 x3 x4 x5 x6 σ τ else if 136 = 99 then Mo_copy_t99 (Mo_copy_f n) n x1 x2 x3 x4 x5 x6 σ τ else if 136 = 136 then Mo_copy_t136 (Mo_copy_f n) n x1 x2 x3 x4 x5 x6 σ τ else none) = _
  rw [if_neg (by decide), if_neg (by decide), if_pos rfl]
set_option maxRecDepth 100000 in
set_option maxHeartbeats 8000000 in
theorem Mo_copy_x {F : xF} {G : xG} {B : Nat} {M : xM} (C : xC F G B cMo_copy RMo 7 1 23 0 0) (hr : (xFM F).sig.returnType = (some .int)) : ∀ (n : Nat) (x1 : Int32) (x2 : Int32) (x3 : Int32) (x4 : Int32) (x5 : Int32) (x6 : Int32) (σ : mS) (τ : mL) (R : Int32 × mS × mL), (Mo_copy_f n 0 x1 x2 x3 x4 x5 x6 σ τ = some R → XM F G B (xZ F G B (mP M (some (.int R.1)) R.2.1 R.2.2) 0 0) 7 M σ τ 0 [(0, .ref (M.1)), (1, .int (x1)), (2, .int (x2)), (3, .int (x3)), (4, .int (x4)), (5, .int (x5))] []) ∧ (Mo_copy_f n 99 x1 x2 x3 x4 x5 x6 σ τ = some R → XM F G B (xZ F G B (mP M (some (.int R.1)) R.2.1 R.2.2) 0 0) 7 M σ τ 99 [(0, .ref (M.1)), (1, .int (x1)), (2, .int (x2)), (3, .int (x3)), (4, .int (x4)), (5, .int (x5)), (6, .int (x6))] []) ∧ (Mo_copy_f n 136 x1 x2 x3 x4 x5 x6 σ τ = some R → XM F G B (xZ F G B (mP M (some (.int R.1)) R.2.1 R.2.2) 0 0) 7 M σ τ 136 [(0, .ref (M.1)), (1, .int (x1)), (2, .int (x2)), (3, .int (x3)), (4, .int (x4)), (5, .int (x5)), (6, .int (x6))] []) := by
  intro n
  induction n with
  | zero => exact fun _ _ _ _ _ _ _ _ _ => ⟨(fun hR => nomatch (show (none : Option _) = some _ from hR)), (fun hR => nomatch (show (none : Option _) = some _ from hR)), (fun hR => nomatch (show (none : Option _) = some _ from hR))⟩
  | succ n ih =>
    intro x1 x2 x3 x4 x5 x6 σ τ R
    refine ⟨fun hR => ?_, fun hR => ?_, fun hR => ?_⟩
    · rw [Mo_copy_e0] at hR
      unfold Mo_copy_t0 at hR
      refine XM_aload_n C dMo_copy_0 rfl ?_
      refine XM_iconst (v := 0) C dMo_copy_1 rfl ?_
      refine XM_put (k := 0) C rfl fwMo_124 rfl rfl rfl dMo_copy_2 ?_
      obtain ⟨s1, es1, hR⟩ := b_bnd hR
      rw [← es1]
      refine XM_iload_n C dMo_copy_5 rfl ?_
      refine XM_callSi (As := [.int (x1)]) (rest := []) C (Mo_isShelf_c (x1)) wMo_301 ⟨by decide, by decide⟩ rfl rfl (Nat.le_of_ble_eq_true rfl) dMo_copy_6 ?_
      refine XM_if_eq (tgt := 19) C dMo_copy_9 (by decide) (fun c2 => ?_) (fun c2 => ?_)
      · rw [if_pos c2] at hR
        refine XM_iconst (v := (-1)) C dMo_copy_19 rfl ?_
        have hR := Option.some.inj hR
        subst hR
        exact XM_iret C hr dMo_copy_20 rfl rfl rfl
      · rw [if_neg c2] at hR
        refine XM_iload_n C dMo_copy_12 rfl ?_
        refine XM_callSi (As := [.int (x3)]) (rest := []) C (Mo_isShelf_c (x3)) wMo_301 ⟨by decide, by decide⟩ rfl rfl (Nat.le_of_ble_eq_true rfl) dMo_copy_13 ?_
        refine XM_if_ne (tgt := 21) C dMo_copy_16 (by decide) (fun c3 => ?_) (fun c3 => ?_)
        · rw [if_neg c3] at hR
          refine XM_aload_n C dMo_copy_21 rfl ?_
          refine XM_get (k := 46) (v := .ref (M.2.1 46)) C rfl fwMo_101 dMo_copy_22 ?_
          refine XM_iload_n C dMo_copy_25 rfl ?_
          obtain ⟨q4, hR⟩ := o_if hR
          refine XM_iald (k := 46) (n := 8) C rfl (xin_vp q4) dMo_copy_26 ?_
          refine XM_if_eq (tgt := 39) C dMo_copy_27 (by decide) (fun c5 => ?_) (fun c5 => ?_)
          · rw [if_pos c5] at hR
            refine XM_bipush (v := (-11)) C dMo_copy_39 (by decide) ?_
            have hR := Option.some.inj hR
            subst hR
            exact XM_iret C hr dMo_copy_41 rfl rfl rfl
          · rw [if_neg c5] at hR
            refine XM_aload_n C dMo_copy_30 rfl ?_
            refine XM_get (k := 46) (v := .ref (M.2.1 46)) C rfl fwMo_101 dMo_copy_31 ?_
            refine XM_iload_n C dMo_copy_34 rfl ?_
            obtain ⟨q6, hR⟩ := o_if hR
            refine XM_iald (k := 46) (n := 8) C rfl (xin_vp q6) dMo_copy_35 ?_
            refine XM_if_ne (tgt := 42) C dMo_copy_36 (by decide) (fun c7 => ?_) (fun c7 => ?_)
            · rw [if_neg c7] at hR
              refine XM_aload_n C dMo_copy_42 rfl ?_
              refine XM_get (k := 46) (v := .ref (M.2.1 46)) C rfl fwMo_101 dMo_copy_43 ?_
              refine XM_iload_n C dMo_copy_46 rfl ?_
              obtain ⟨q8, hR⟩ := o_if hR
              refine XM_iald (k := 46) (n := 8) C rfl (xin_vp q8) dMo_copy_47 ?_
              refine XM_iconst (v := 3) C dMo_copy_48 rfl ?_
              refine XM_icmp_lt (tgt := 67) C dMo_copy_49 (by decide) (fun c9 => ?_) (fun c9 => ?_)
              · rw [if_pos c9] at hR
                refine XM_bipush (v := (-12)) C dMo_copy_67 (by decide) ?_
                have hR := Option.some.inj hR
                subst hR
                exact XM_iret C hr dMo_copy_69 rfl rfl rfl
              · rw [if_neg c9] at hR
                refine XM_aload_n C dMo_copy_52 rfl ?_
                refine XM_get (k := 46) (v := .ref (M.2.1 46)) C rfl fwMo_101 dMo_copy_53 ?_
                refine XM_iload_n C dMo_copy_56 rfl ?_
                obtain ⟨q10, hR⟩ := o_if hR
                refine XM_iald (k := 46) (n := 8) C rfl (xin_vp q10) dMo_copy_57 ?_
                refine XM_aload_n C dMo_copy_58 rfl ?_
                refine XM_get (k := 46) (v := .ref (M.2.1 46)) C rfl fwMo_101 dMo_copy_59 ?_
                refine XM_iload_n C dMo_copy_62 rfl ?_
                obtain ⟨q11, hR⟩ := o_if hR
                refine XM_iald (k := 46) (n := 8) C rfl (xin_vp q11) dMo_copy_63 ?_
                refine XM_icmp_eq (tgt := 70) C dMo_copy_64 (by decide) (fun c12 => ?_) (fun c12 => ?_)
                · rw [if_pos c12] at hR
                  refine XM_aload_n C dMo_copy_70 rfl ?_
                  refine XM_iload_n C dMo_copy_71 rfl ?_
                  refine XM_iload_n C dMo_copy_72 rfl ?_
                  refine XM_iload C dMo_copy_73 rfl ?_
                  obtain ⟨r13, hr13, hR⟩ := o_bind hR
                  refine XM_callVi (As := [.int (x1), .int (x2), .int (x5)]) (rest := []) C (Mo_hasPlaces_c hr13) wMo_310 ⟨by decide, by decide⟩ rfl rfl (Nat.le_of_ble_eq_true rfl) dMo_copy_75 ?_
                  refine XM_if_eq (tgt := 93) C dMo_copy_78 (by decide) (fun c14 => ?_) (fun c14 => ?_)
                  · rw [if_pos c14] at hR
                    refine XM_bipush (v := (-13)) C dMo_copy_93 (by decide) ?_
                    have hR := Option.some.inj hR
                    subst hR
                    exact XM_iret C hr dMo_copy_95 rfl rfl rfl
                  · rw [if_neg c14] at hR
                    refine XM_aload_n C dMo_copy_81 rfl ?_
                    refine XM_iload_n C dMo_copy_82 rfl ?_
                    refine XM_iload C dMo_copy_83 rfl ?_
                    refine XM_iload C dMo_copy_85 rfl ?_
                    obtain ⟨r15, hr15, hR⟩ := o_bind hR
                    refine XM_callVi (As := [.int (x3), .int (x4), .int (x5)]) (rest := []) C (Mo_hasPlaces_c hr15) wMo_310 ⟨by decide, by decide⟩ rfl rfl (Nat.le_of_ble_eq_true rfl) dMo_copy_87 ?_
                    refine XM_if_ne (tgt := 96) C dMo_copy_90 (by decide) (fun c16 => ?_) (fun c16 => ?_)
                    · rw [if_neg c16] at hR
                      refine XM_iconst (v := 0) C dMo_copy_96 rfl ?_
                      refine XM_istore (lv' := [(6, .int ((0 : Int32))), (0, .ref (M.1)), (1, .int (x1)), (2, .int (x2)), (3, .int (x3)), (4, .int (x4)), (5, .int (x5))]) C dMo_copy_97 (by decide) rfl ?_
                      refine XM_sub (lv' := [(0, .ref (M.1)), (1, .int (x1)), (2, .int (x2)), (3, .int (x3)), (4, .int (x4)), (5, .int (x5)), (6, .int ((0 : Int32)))]) [1, 2, 3, 4, 5, 6, 0] rfl ?_
                      exact (ih (x1) (x2) (x3) (x4) (x5) ((0 : Int32)) _ _ _).2.1 hR
                    · rw [if_pos c16] at hR
                      refine XM_bipush (v := (-13)) C dMo_copy_93 (by decide) ?_
                      have hR := Option.some.inj hR
                      subst hR
                      exact XM_iret C hr dMo_copy_95 rfl rfl rfl
                · rw [if_neg c12] at hR
                  refine XM_bipush (v := (-12)) C dMo_copy_67 (by decide) ?_
                  have hR := Option.some.inj hR
                  subst hR
                  exact XM_iret C hr dMo_copy_69 rfl rfl rfl
            · rw [if_pos c7] at hR
              refine XM_bipush (v := (-11)) C dMo_copy_39 (by decide) ?_
              have hR := Option.some.inj hR
              subst hR
              exact XM_iret C hr dMo_copy_41 rfl rfl rfl
        · rw [if_pos c3] at hR
          refine XM_iconst (v := (-1)) C dMo_copy_19 rfl ?_
          have hR := Option.some.inj hR
          subst hR
          exact XM_iret C hr dMo_copy_20 rfl rfl rfl
    · rw [Mo_copy_e99] at hR
      unfold Mo_copy_t99 at hR
      refine XM_iload C dMo_copy_99 rfl ?_
      refine XM_iload C dMo_copy_101 rfl ?_
      refine XM_icmp_ge (tgt := 133) C dMo_copy_103 (by decide) (fun c17 => ?_) (fun c17 => ?_)
      · rw [if_pos c17] at hR
        refine XM_iconst (v := 0) C dMo_copy_133 rfl ?_
        refine XM_istore (lv' := [(6, .int ((0 : Int32))), (0, .ref (M.1)), (1, .int (x1)), (2, .int (x2)), (3, .int (x3)), (4, .int (x4)), (5, .int (x5))]) C dMo_copy_134 (by decide) rfl ?_
        refine XM_sub (lv' := [(0, .ref (M.1)), (1, .int (x1)), (2, .int (x2)), (3, .int (x3)), (4, .int (x4)), (5, .int (x5)), (6, .int ((0 : Int32)))]) [1, 2, 3, 4, 5, 6, 0] rfl ?_
        exact (ih (x1) (x2) (x3) (x4) (x5) ((0 : Int32)) _ _ _).2.2 hR
      · rw [if_neg c17] at hR
        refine XM_aload_n C dMo_copy_106 rfl ?_
        refine XM_get (k := 51) (v := .ref (M.2.1 51)) C rfl fwMo_117 dMo_copy_107 ?_
        refine XM_iload C dMo_copy_110 rfl ?_
        refine XM_aload_n C dMo_copy_112 rfl ?_
        refine XM_get (k := 50) (v := .ref (M.2.1 50)) C rfl fwMo_113 dMo_copy_113 ?_
        refine XM_bipush (v := 60) C dMo_copy_116 (by decide) ?_
        refine XM_iload_n C dMo_copy_118 rfl ?_
        refine XM_imul C dMo_copy_119 ?_
        refine XM_iload_n C dMo_copy_120 rfl ?_
        refine XM_iadd C dMo_copy_121 ?_
        refine XM_iload C dMo_copy_122 rfl ?_
        refine XM_iadd C dMo_copy_124 ?_
        obtain ⟨q18, hR⟩ := o_if hR
        refine XM_lald (k := 50) (n := 480) C rfl (xin_vp q18) dMo_copy_125 ?_
        obtain ⟨q19, hR⟩ := o_if hR
        refine XM_last (k := 51) (n := 60) C rfl (xin_vp q19) dMo_copy_126 ?_
        obtain ⟨t20, et20, hR⟩ := b_bnd hR
        rw [← et20]
        refine XM_iinc (v := x6 + 1) (lv' := [(6, .int (x6 + 1)), (0, .ref (M.1)), (1, .int (x1)), (2, .int (x2)), (3, .int (x3)), (4, .int (x4)), (5, .int (x5))]) C dMo_copy_127 rfl rfl (by decide) rfl ?_
        refine XM_goto (tgt := 99) C dMo_copy_130 (by decide) ?_
        refine XM_sub (lv' := [(0, .ref (M.1)), (1, .int (x1)), (2, .int (x2)), (3, .int (x3)), (4, .int (x4)), (5, .int (x5)), (6, .int (x6 + 1))]) [1, 2, 3, 4, 5, 6, 0] rfl ?_
        exact (ih (x1) (x2) (x3) (x4) (x5) (x6 + 1) _ _ _).2.1 hR
    · rw [Mo_copy_e136] at hR
      unfold Mo_copy_t136 at hR
      refine XM_iload C dMo_copy_136 rfl ?_
      refine XM_iload C dMo_copy_138 rfl ?_
      refine XM_icmp_ge (tgt := 171) C dMo_copy_140 (by decide) (fun c21 => ?_) (fun c21 => ?_)
      · rw [if_pos c21] at hR
        refine XM_iload C dMo_copy_171 rfl ?_
        have hR := Option.some.inj hR
        subst hR
        exact XM_iret C hr dMo_copy_173 rfl rfl rfl
      · rw [if_neg c21] at hR
        refine XM_aload_n C dMo_copy_143 rfl ?_
        refine XM_get (k := 50) (v := .ref (M.2.1 50)) C rfl fwMo_113 dMo_copy_144 ?_
        refine XM_bipush (v := 60) C dMo_copy_147 (by decide) ?_
        refine XM_iload_n C dMo_copy_149 rfl ?_
        refine XM_imul C dMo_copy_150 ?_
        refine XM_iload C dMo_copy_151 rfl ?_
        refine XM_iadd C dMo_copy_153 ?_
        refine XM_iload C dMo_copy_154 rfl ?_
        refine XM_iadd C dMo_copy_156 ?_
        refine XM_aload_n C dMo_copy_157 rfl ?_
        refine XM_get (k := 51) (v := .ref (M.2.1 51)) C rfl fwMo_117 dMo_copy_158 ?_
        refine XM_iload C dMo_copy_161 rfl ?_
        obtain ⟨q22, hR⟩ := o_if hR
        refine XM_lald (k := 51) (n := 60) C rfl (xin_vp q22) dMo_copy_163 ?_
        obtain ⟨q23, hR⟩ := o_if hR
        refine XM_last (k := 50) (n := 480) C rfl (xin_vp q23) dMo_copy_164 ?_
        obtain ⟨t24, et24, hR⟩ := b_bnd hR
        rw [← et24]
        refine XM_iinc (v := x6 + 1) (lv' := [(6, .int (x6 + 1)), (0, .ref (M.1)), (1, .int (x1)), (2, .int (x2)), (3, .int (x3)), (4, .int (x4)), (5, .int (x5))]) C dMo_copy_165 rfl rfl (by decide) rfl ?_
        refine XM_goto (tgt := 136) C dMo_copy_168 (by decide) ?_
        refine XM_sub (lv' := [(0, .ref (M.1)), (1, .int (x1)), (2, .int (x2)), (3, .int (x3)), (4, .int (x4)), (5, .int (x5)), (6, .int (x6 + 1))]) [1, 2, 3, 4, 5, 6, 0] rfl ?_
        exact (ih (x1) (x2) (x3) (x4) (x5) (x6 + 1) _ _ _).2.2 hR
theorem Mo_copy_c {l : Launch} {G : xG} {B : Nat} {M : xM} {n : Nat} {x1 x2 x3 x4 x5 : Int32} {σ : mS} {τ : mL} {R : Int32 × mS × mL} (hR : Mo_copy_f n 0 x1 x2 x3 x4 x5 0 σ τ = some R) : mCon l yMo_copy cMo_copy 7 (some .int) 1 23 G B M [.ref M.1, .int x1, .int x2, .int x3, .int x4, .int x5] σ τ (some (.int R.1)) R.2.1 R.2.2 := mCon.of (by decide) (Nat.le_of_ble_eq_true rfl) (fun F e C hr => XM_sub (lv' := [(0, .ref (M.1)), (1, .int (x1)), (2, .int (x2)), (3, .int (x3)), (4, .int (x4)), (5, .int (x5))]) [0, 1, 2, 3, 4, 5] rfl ((Mo_copy_x C hr n x1 x2 x3 x4 x5 0 σ τ R).1 hR))
def Mo_weight_f (n : Nat) (x1 : Int32) (σ : mS) (τ : mL) : Option (Int32 × mS × mL) := bnd (su σ 0 0 ((0 : Int32))) (fun s1 => (if Mo_isShelf_f (x1) = 0 then some (((-1) : Int32), s1, τ) else (if xin (x1) 8 = true then (if s1 46 (Int32.toNatClampNeg (x1)) = 0 then some (((-11) : Int32), s1, τ) else (if xin (x1) 8 = true then (if s1 46 (Int32.toNatClampNeg (x1)) ≤ (2 : Int32) then (if xin (x1) 8 = true then some (s1 48 (Int32.toNatClampNeg (x1)), s1, τ) else none) else some (((-12) : Int32), s1, τ)) else none)) else none)))
set_option maxRecDepth 100000 in
set_option maxHeartbeats 8000000 in
theorem Mo_weight_x {F : xF} {G : xG} {B : Nat} {M : xM} (C : xC F G B cMo_weight RMo 2 1 20 0 0) (hr : (xFM F).sig.returnType = (some .int)) {n : Nat} {x1 : Int32} {σ : mS} {τ : mL} {R : Int32 × mS × mL} (hR : Mo_weight_f n x1 σ τ = some R) : XM F G B (xZ F G B (mP M (some (.int R.1)) R.2.1 R.2.2) 0 0) 2 M σ τ 0 [(0, .ref (M.1)), (1, .int (x1))] [] := by
  unfold Mo_weight_f at hR
  refine XM_aload_n C dMo_weight_0 rfl ?_
  refine XM_iconst (v := 0) C dMo_weight_1 rfl ?_
  refine XM_put (k := 0) C rfl fwMo_124 rfl rfl rfl dMo_weight_2 ?_
  obtain ⟨s1, es1, hR⟩ := b_bnd hR
  rw [← es1]
  refine XM_iload_n C dMo_weight_5 rfl ?_
  refine XM_callSi (As := [.int (x1)]) (rest := []) C (Mo_isShelf_c (x1)) wMo_301 ⟨by decide, by decide⟩ rfl rfl (Nat.le_of_ble_eq_true rfl) dMo_weight_6 ?_
  refine XM_if_ne (tgt := 16) C dMo_weight_9 (by decide) (fun c2 => ?_) (fun c2 => ?_)
  · rw [if_neg c2] at hR
    refine XM_aload_n C dMo_weight_16 rfl ?_
    refine XM_get (k := 46) (v := .ref (M.2.1 46)) C rfl fwMo_101 dMo_weight_17 ?_
    refine XM_iload_n C dMo_weight_20 rfl ?_
    obtain ⟨q3, hR⟩ := o_if hR
    refine XM_iald (k := 46) (n := 8) C rfl (xin_vp q3) dMo_weight_21 ?_
    refine XM_if_ne (tgt := 30) C dMo_weight_22 (by decide) (fun c4 => ?_) (fun c4 => ?_)
    · rw [if_neg c4] at hR
      refine XM_aload_n C dMo_weight_30 rfl ?_
      refine XM_get (k := 46) (v := .ref (M.2.1 46)) C rfl fwMo_101 dMo_weight_31 ?_
      refine XM_iload_n C dMo_weight_34 rfl ?_
      obtain ⟨q5, hR⟩ := o_if hR
      refine XM_iald (k := 46) (n := 8) C rfl (xin_vp q5) dMo_weight_35 ?_
      refine XM_iconst (v := 2) C dMo_weight_36 rfl ?_
      refine XM_icmp_le (tgt := 45) C dMo_weight_37 (by decide) (fun c6 => ?_) (fun c6 => ?_)
      · rw [if_pos c6] at hR
        refine XM_aload_n C dMo_weight_45 rfl ?_
        refine XM_get (k := 48) (v := .ref (M.2.1 48)) C rfl fwMo_107 dMo_weight_46 ?_
        refine XM_iload_n C dMo_weight_49 rfl ?_
        obtain ⟨q7, hR⟩ := o_if hR
        refine XM_iald (k := 48) (n := 8) C rfl (xin_vp q7) dMo_weight_50 ?_
        have hR := Option.some.inj hR
        subst hR
        exact XM_iret C hr dMo_weight_51 rfl rfl rfl
      · rw [if_neg c6] at hR
        refine XM_bipush (v := (-12)) C dMo_weight_40 (by decide) ?_
        refine XM_goto (tgt := 51) C dMo_weight_42 (by decide) ?_
        have hR := Option.some.inj hR
        subst hR
        exact XM_iret C hr dMo_weight_51 rfl rfl rfl
    · rw [if_pos c4] at hR
      refine XM_bipush (v := (-11)) C dMo_weight_25 (by decide) ?_
      refine XM_goto (tgt := 51) C dMo_weight_27 (by decide) ?_
      have hR := Option.some.inj hR
      subst hR
      exact XM_iret C hr dMo_weight_51 rfl rfl rfl
  · rw [if_pos c2] at hR
    refine XM_iconst (v := (-1)) C dMo_weight_12 rfl ?_
    refine XM_goto (tgt := 51) C dMo_weight_13 (by decide) ?_
    have hR := Option.some.inj hR
    subst hR
    exact XM_iret C hr dMo_weight_51 rfl rfl rfl
theorem Mo_weight_c {l : Launch} {G : xG} {B : Nat} {M : xM} {n : Nat} {x1 : Int32} {σ : mS} {τ : mL} {R : Int32 × mS × mL} (hR : Mo_weight_f n x1 σ τ = some R) : mCon l yMo_weight cMo_weight 2 (some .int) 1 20 G B M [.ref M.1, .int x1] σ τ (some (.int R.1)) R.2.1 R.2.2 := mCon.of (by decide) (Nat.le_of_ble_eq_true rfl) (fun F e C hr => XM_sub (lv' := [(0, .ref (M.1)), (1, .int (x1))]) [0, 1] rfl (Mo_weight_x C hr hR))
def Mo_toss_f (n : Nat) (x1 : Int32) (σ : mS) (τ : mL) : Option (Int32 × mS × mL) := bnd (su σ 0 0 ((0 : Int32))) (fun s1 => (if Mo_isShelf_f (x1) = 0 then some (((-1) : Int32), s1, τ) else (if xin (x1) 8 = true then (if s1 46 (Int32.toNatClampNeg (x1)) = 0 then some (((-11) : Int32), s1, τ) else (if xin (x1) 8 = true then (if s1 46 (Int32.toNatClampNeg (x1)) = (1 : Int32) then (if xin (x1) 8 = true then (if s1 49 (Int32.toNatClampNeg (x1)) = 0 then some (((-15) : Int32), s1, τ) else (if xin (x1) 8 = true then some (s1 49 (Int32.toNatClampNeg (x1)), s1, τ) else none)) else none) else some (((-12) : Int32), s1, τ)) else none)) else none)))
set_option maxRecDepth 100000 in
set_option maxHeartbeats 8000000 in
theorem Mo_toss_x {F : xF} {G : xG} {B : Nat} {M : xM} (C : xC F G B cMo_toss RMo 2 1 20 0 0) (hr : (xFM F).sig.returnType = (some .int)) {n : Nat} {x1 : Int32} {σ : mS} {τ : mL} {R : Int32 × mS × mL} (hR : Mo_toss_f n x1 σ τ = some R) : XM F G B (xZ F G B (mP M (some (.int R.1)) R.2.1 R.2.2) 0 0) 2 M σ τ 0 [(0, .ref (M.1)), (1, .int (x1))] [] := by
  unfold Mo_toss_f at hR
  refine XM_aload_n C dMo_toss_0 rfl ?_
  refine XM_iconst (v := 0) C dMo_toss_1 rfl ?_
  refine XM_put (k := 0) C rfl fwMo_124 rfl rfl rfl dMo_toss_2 ?_
  obtain ⟨s1, es1, hR⟩ := b_bnd hR
  rw [← es1]
  refine XM_iload_n C dMo_toss_5 rfl ?_
  refine XM_callSi (As := [.int (x1)]) (rest := []) C (Mo_isShelf_c (x1)) wMo_301 ⟨by decide, by decide⟩ rfl rfl (Nat.le_of_ble_eq_true rfl) dMo_toss_6 ?_
  refine XM_if_ne (tgt := 16) C dMo_toss_9 (by decide) (fun c2 => ?_) (fun c2 => ?_)
  · rw [if_neg c2] at hR
    refine XM_aload_n C dMo_toss_16 rfl ?_
    refine XM_get (k := 46) (v := .ref (M.2.1 46)) C rfl fwMo_101 dMo_toss_17 ?_
    refine XM_iload_n C dMo_toss_20 rfl ?_
    obtain ⟨q3, hR⟩ := o_if hR
    refine XM_iald (k := 46) (n := 8) C rfl (xin_vp q3) dMo_toss_21 ?_
    refine XM_if_ne (tgt := 30) C dMo_toss_22 (by decide) (fun c4 => ?_) (fun c4 => ?_)
    · rw [if_neg c4] at hR
      refine XM_aload_n C dMo_toss_30 rfl ?_
      refine XM_get (k := 46) (v := .ref (M.2.1 46)) C rfl fwMo_101 dMo_toss_31 ?_
      refine XM_iload_n C dMo_toss_34 rfl ?_
      obtain ⟨q5, hR⟩ := o_if hR
      refine XM_iald (k := 46) (n := 8) C rfl (xin_vp q5) dMo_toss_35 ?_
      refine XM_iconst (v := 1) C dMo_toss_36 rfl ?_
      refine XM_icmp_eq (tgt := 45) C dMo_toss_37 (by decide) (fun c6 => ?_) (fun c6 => ?_)
      · rw [if_pos c6] at hR
        refine XM_aload_n C dMo_toss_45 rfl ?_
        refine XM_get (k := 49) (v := .ref (M.2.1 49)) C rfl fwMo_110 dMo_toss_46 ?_
        refine XM_iload_n C dMo_toss_49 rfl ?_
        obtain ⟨q7, hR⟩ := o_if hR
        refine XM_iald (k := 49) (n := 8) C rfl (xin_vp q7) dMo_toss_50 ?_
        refine XM_if_ne (tgt := 59) C dMo_toss_51 (by decide) (fun c8 => ?_) (fun c8 => ?_)
        · rw [if_neg c8] at hR
          refine XM_aload_n C dMo_toss_59 rfl ?_
          refine XM_get (k := 49) (v := .ref (M.2.1 49)) C rfl fwMo_110 dMo_toss_60 ?_
          refine XM_iload_n C dMo_toss_63 rfl ?_
          obtain ⟨q9, hR⟩ := o_if hR
          refine XM_iald (k := 49) (n := 8) C rfl (xin_vp q9) dMo_toss_64 ?_
          have hR := Option.some.inj hR
          subst hR
          exact XM_iret C hr dMo_toss_65 rfl rfl rfl
        · rw [if_pos c8] at hR
          refine XM_bipush (v := (-15)) C dMo_toss_54 (by decide) ?_
          refine XM_goto (tgt := 65) C dMo_toss_56 (by decide) ?_
          have hR := Option.some.inj hR
          subst hR
          exact XM_iret C hr dMo_toss_65 rfl rfl rfl
      · rw [if_neg c6] at hR
        refine XM_bipush (v := (-12)) C dMo_toss_40 (by decide) ?_
        refine XM_goto (tgt := 65) C dMo_toss_42 (by decide) ?_
        have hR := Option.some.inj hR
        subst hR
        exact XM_iret C hr dMo_toss_65 rfl rfl rfl
    · rw [if_pos c4] at hR
      refine XM_bipush (v := (-11)) C dMo_toss_25 (by decide) ?_
      refine XM_goto (tgt := 65) C dMo_toss_27 (by decide) ?_
      have hR := Option.some.inj hR
      subst hR
      exact XM_iret C hr dMo_toss_65 rfl rfl rfl
  · rw [if_pos c2] at hR
    refine XM_iconst (v := (-1)) C dMo_toss_12 rfl ?_
    refine XM_goto (tgt := 65) C dMo_toss_13 (by decide) ?_
    have hR := Option.some.inj hR
    subst hR
    exact XM_iret C hr dMo_toss_65 rfl rfl rfl
theorem Mo_toss_c {l : Launch} {G : xG} {B : Nat} {M : xM} {n : Nat} {x1 : Int32} {σ : mS} {τ : mL} {R : Int32 × mS × mL} (hR : Mo_toss_f n x1 σ τ = some R) : mCon l yMo_toss cMo_toss 2 (some .int) 1 20 G B M [.ref M.1, .int x1] σ τ (some (.int R.1)) R.2.1 R.2.2 := mCon.of (by decide) (Nat.le_of_ble_eq_true rfl) (fun F e C hr => XM_sub (lv' := [(0, .ref (M.1)), (1, .int (x1))]) [0, 1] rfl (Mo_toss_x C hr hR))
