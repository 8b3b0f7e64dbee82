def Mo_tightenBy_f (n : Nat) (x1 : Int32) (x2 : Int32) (x3 : Int32) (σ : mS) (τ : mL) : Option (Int32 × mS × mL) := (if σ 17 0 = 0 then (if xin ((((5 : Int32)) * (x1)) + (x2)) 25 = true then (if σ 15 (Int32.toNatClampNeg ((((5 : Int32)) * (x1)) + (x2))) ≤ x3 then some (0, σ, τ) else (if xin ((((5 : Int32)) * (x1)) + (x2)) 25 = true then bnd (su σ 15 (Int32.toNatClampNeg ((((5 : Int32)) * (x1)) + (x2))) (x3)) (fun s5 => obd (Mo_close_f n 0 0 0 0 0 s5 τ) (fun r6 => some (0, r6.2.1, r6.2.2))) else none)) else none) else some (0, σ, τ))
set_option maxRecDepth 100000 in
set_option maxHeartbeats 8000000 in
theorem Mo_tightenBy_x {F : xF} {G : xG} {B : Nat} {M : xM} (C : xC F G B cMo_tightenBy RMo 4 3 67 0 0) (hr : (xFM F).sig.returnType = none) {n : Nat} {x1 x2 x3 : Int32} {σ : mS} {τ : mL} {R : Int32 × mS × mL} (hR : Mo_tightenBy_f n x1 x2 x3 σ τ = some R) : XM F G B (xZ F G B (mP M none R.2.1 R.2.2) 0 0) 4 M σ τ 0 [(0, .ref (M.1)), (1, .int (x1)), (2, .int (x2)), (3, .int (x3))] [] := by
  unfold Mo_tightenBy_f at hR
  refine XM_aload_n C dMo_tightenBy_0 rfl ?_
  refine XM_get (k := 17) (v := .int (σ 17 0)) C rfl fwMo_167 dMo_tightenBy_1 ?_
  refine XM_if_ne (tgt := 36) C dMo_tightenBy_4 (by decide) (fun c1 => ?_) (fun c1 => ?_)
  · rw [if_neg c1] at hR
    have hR := Option.some.inj hR
    subst hR
    exact XM_vret C hr dMo_tightenBy_36 rfl rfl rfl
  · rw [if_pos c1] at hR
    refine XM_iload_n C dMo_tightenBy_7 rfl ?_
    refine XM_aload_n C dMo_tightenBy_8 rfl ?_
    refine XM_get (k := 15) (v := .ref (M.2.1 15)) C rfl fwMo_49 dMo_tightenBy_9 ?_
    refine XM_iconst (v := 5) C dMo_tightenBy_12 rfl ?_
    refine XM_iload_n C dMo_tightenBy_13 rfl ?_
    refine XM_imul C dMo_tightenBy_14 ?_
    refine XM_iload_n C dMo_tightenBy_15 rfl ?_
    refine XM_iadd C dMo_tightenBy_16 ?_
    obtain ⟨q2, hR⟩ := o_if hR
    refine XM_iald (k := 15) (n := 25) C rfl (xin_vp q2) dMo_tightenBy_17 ?_
    refine XM_icmp_ge (tgt := 36) C dMo_tightenBy_18 (by decide) (fun c3 => ?_) (fun c3 => ?_)
    · rw [if_pos c3] at hR
      have hR := Option.some.inj hR
      subst hR
      exact XM_vret C hr dMo_tightenBy_36 rfl rfl rfl
    · rw [if_neg c3] at hR
      refine XM_aload_n C dMo_tightenBy_21 rfl ?_
      refine XM_get (k := 15) (v := .ref (M.2.1 15)) C rfl fwMo_49 dMo_tightenBy_22 ?_
      refine XM_iconst (v := 5) C dMo_tightenBy_25 rfl ?_
      refine XM_iload_n C dMo_tightenBy_26 rfl ?_
      refine XM_imul C dMo_tightenBy_27 ?_
      refine XM_iload_n C dMo_tightenBy_28 rfl ?_
      refine XM_iadd C dMo_tightenBy_29 ?_
      refine XM_iload_n C dMo_tightenBy_30 rfl ?_
      obtain ⟨q4, hR⟩ := o_if hR
      refine XM_iast (k := 15) (n := 25) C rfl (xin_vp q4) dMo_tightenBy_31 ?_
      obtain ⟨s5, es5, hR⟩ := b_bnd hR
      rw [← es5]
      refine XM_aload_n C dMo_tightenBy_32 rfl ?_
      obtain ⟨r6, hr6, hR⟩ := o_bind hR
      refine XM_callVv (As := []) (rest := []) C (Mo_close_c hr6) wMo_176 ⟨by decide, by decide⟩ rfl rfl (Nat.le_of_ble_eq_true rfl) dMo_tightenBy_33 ?_
      have hR := Option.some.inj hR
      subst hR
      exact XM_vret C hr dMo_tightenBy_36 rfl rfl rfl
theorem Mo_tightenBy_c {l : Launch} {G : xG} {B : Nat} {M : xM} {n : Nat} {x1 x2 x3 : Int32} {σ : mS} {τ : mL} {R : Int32 × mS × mL} (hR : Mo_tightenBy_f n x1 x2 x3 σ τ = some R) : mCon l yMo_tightenBy cMo_tightenBy 4 none 3 67 G B M [.ref M.1, .int x1, .int x2, .int x3] σ τ none R.2.1 R.2.2 := mCon.of (by decide) (Nat.le_of_ble_eq_true rfl) (fun F e C hr => XM_sub (lv' := [(0, .ref (M.1)), (1, .int (x1)), (2, .int (x2)), (3, .int (x3))]) [0, 1, 2, 3] rfl (Mo_tightenBy_x C hr hR))
def Mo_passOn_t0 (f : Nat → Int32 → mS → mL → Option (Int32 × mS × mL)) (n : Nat) (x1 : Int32) (σ : mS) (τ : mL) : Option (Int32 × mS × mL) := f 2 ((1 : Int32)) σ τ
def Mo_passOn_t2 (f : Nat → Int32 → mS → mL → Option (Int32 × mS × mL)) (n : Nat) (x1 : Int32) (σ : mS) (τ : mL) : Option (Int32 × mS × mL) := (if σ 16 0 ≤ x1 then some (0, σ, τ) else (if σ 17 0 = 0 then (if xin (((5 : Int32)) * (x1)) 25 = true then bnd (su σ 15 (Int32.toNatClampNeg (((5 : Int32)) * (x1))) ((1000000 : Int32))) (fun s4 => f 2 (x1 + 1) s4 τ) else none) else some (0, σ, τ)))
def Mo_passOn_f : Nat → Nat → Int32 → mS → mL → Option (Int32 × mS × mL)
  | 0 => fun _ _ _ _ => none
  | n + 1 => fun p x1 σ τ => if p = 0 then Mo_passOn_t0 (Mo_passOn_f n) n x1 σ τ else if p = 2 then Mo_passOn_t2 (Mo_passOn_f n) n x1 σ τ else none
theorem Mo_passOn_e0 (n : Nat) (x1 : Int32) (σ : mS) (τ : mL) : Mo_passOn_f (n + 1) 0 x1 σ τ = Mo_passOn_t0 (Mo_passOn_f n) n x1 σ τ := by
  show (if 0 = 0 then Mo_passOn_t0 (Mo_passOn_f n) n x1 σ τ else if 0 = 2 then Mo_passOn_t2 (Mo_passOn_f n) n x1 σ τ else none) = _
  rw [if_pos rfl]
theorem Mo_passOn_e2 (n : Nat) (x1 : Int32) (σ : mS) (τ : mL) : Mo_passOn_f (n + 1) 2 x1 σ τ = Mo_passOn_t2 (Mo_passOn_f n) n x1 σ τ := by
  show (if 2 = 0 then Mo_passOn_t0 (Mo_passOn_f n) n x1 σ τ else if 2 = 2 then Mo_passOn_t2 (Mo_passOn_f n) n x1 σ τ else none) = _
  rw [if_neg (by decide), if_pos rfl]
set_option maxRecDepth 100000 in
set_option maxHeartbeats 8000000 in
theorem Mo_passOn_x {F : xF} {G : xG} {B : Nat} {M : xM} (C : xC F G B cMo_passOn RMo 2 0 0 0 0) (hr : (xFM F).sig.returnType = none) : ∀ (n : Nat) (x1 : Int32) (σ : mS) (τ : mL) (R : Int32 × mS × mL), (Mo_passOn_f n 0 x1 σ τ = some R → XM F G B (xZ F G B (mP M none R.2.1 R.2.2) 0 0) 2 M σ τ 0 [(0, .ref (M.1))] []) ∧ (Mo_passOn_f n 2 x1 σ τ = some R → XM F G B (xZ F G B (mP M none R.2.1 R.2.2) 0 0) 2 M σ τ 2 [(0, .ref (M.1)), (1, .int (x1))] []) := by
  intro n
  induction n with
  | zero => exact fun _ _ _ _ => ⟨(fun hR => nomatch (show (none : Option _) = some _ from hR)), (fun hR => nomatch (show (none : Option _) = some _ from hR))⟩
  | succ n ih =>
    intro x1 σ τ R
    refine ⟨fun hR => ?_, fun hR => ?_⟩
    · rw [Mo_passOn_e0] at hR
      unfold Mo_passOn_t0 at hR
      refine XM_iconst (v := 1) C dMo_passOn_0 rfl ?_
      refine XM_istore_n (lv' := [(1, .int ((1 : Int32))), (0, .ref (M.1))]) C dMo_passOn_1 (by decide) rfl ?_
      refine XM_sub (lv' := [(0, .ref (M.1)), (1, .int ((1 : Int32)))]) [1, 0] rfl ?_
      exact (ih ((1 : Int32)) _ _ _).2 hR
    · rw [Mo_passOn_e2] at hR
      unfold Mo_passOn_t2 at hR
      refine XM_iload_n C dMo_passOn_2 rfl ?_
      refine XM_aload_n C dMo_passOn_3 rfl ?_
      refine XM_get (k := 16) (v := .int (σ 16 0)) C rfl fwMo_164 dMo_passOn_4 ?_
      refine XM_icmp_ge (tgt := 33) C dMo_passOn_7 (by decide) (fun c1 => ?_) (fun c1 => ?_)
      · rw [if_pos c1] at hR
        have hR := Option.some.inj hR
        subst hR
        exact XM_vret C hr dMo_passOn_33 rfl rfl rfl
      · rw [if_neg c1] at hR
        refine XM_aload_n C dMo_passOn_10 rfl ?_
        refine XM_get (k := 17) (v := .int (σ 17 0)) C rfl fwMo_167 dMo_passOn_11 ?_
        refine XM_if_ne (tgt := 33) C dMo_passOn_14 (by decide) (fun c2 => ?_) (fun c2 => ?_)
        · rw [if_neg c2] at hR
          have hR := Option.some.inj hR
          subst hR
          exact XM_vret C hr dMo_passOn_33 rfl rfl rfl
        · rw [if_pos c2] at hR
          refine XM_aload_n C dMo_passOn_17 rfl ?_
          refine XM_get (k := 15) (v := .ref (M.2.1 15)) C rfl fwMo_49 dMo_passOn_18 ?_
          refine XM_iconst (v := 5) C dMo_passOn_21 rfl ?_
          refine XM_iload_n C dMo_passOn_22 rfl ?_
          refine XM_imul C dMo_passOn_23 ?_
          refine XM_ldc (v := 1000000) C kMo_171 dMo_passOn_24 ?_
          obtain ⟨q3, hR⟩ := o_if hR
          refine XM_iast (k := 15) (n := 25) C rfl (xin_vp q3) dMo_passOn_26 ?_
          obtain ⟨s4, es4, hR⟩ := b_bnd hR
          rw [← es4]
          refine XM_iinc (v := x1 + 1) (lv' := [(1, .int (x1 + 1)), (0, .ref (M.1))]) C dMo_passOn_27 rfl rfl (by decide) rfl ?_
          refine XM_goto (tgt := 2) C dMo_passOn_30 (by decide) ?_
          refine XM_sub (lv' := [(0, .ref (M.1)), (1, .int (x1 + 1))]) [1, 0] rfl ?_
          exact (ih (x1 + 1) _ _ _).2 hR
theorem Mo_passOn_c {l : Launch} {G : xG} {B : Nat} {M : xM} {n : Nat} {σ : mS} {τ : mL} {R : Int32 × mS × mL} (hR : Mo_passOn_f n 0 0 σ τ = some R) : mCon l yMo_passOn cMo_passOn 2 none 0 0 G B M [.ref M.1] σ τ none R.2.1 R.2.2 := mCon.of (by decide) (Nat.le_of_ble_eq_true rfl) (fun F e C hr => XM_sub (lv' := [(0, .ref (M.1))]) [0] rfl ((Mo_passOn_x C hr n 0 σ τ R).1 hR))
def Mo_setNull_t0 (f : Nat → Int32 → Int32 → Int32 → Int32 → mS → mL → Option (Int32 × mS × mL)) (n : Nat) (x1 : Int32) (x2 : Int32) (x3 : Int32) (x4 : Int32) (σ : mS) (τ : mL) : Option (Int32 × mS × mL) := f 2 (x1) ((0 : Int32)) 0 0 σ τ
def Mo_setNull_t2 (f : Nat → Int32 → Int32 → Int32 → Int32 → mS → mL → Option (Int32 × mS × mL)) (n : Nat) (x1 : Int32) (x2 : Int32) (x3 : Int32) (x4 : Int32) (σ : mS) (τ : mL) : Option (Int32 × mS × mL) := (if (25 : Int32) ≤ x2 then f 28 (x1) ((1 : Int32)) 0 0 σ τ else (if xin (x2) 25 = true then (if xin (x2) 25 = true then bnd (su σ 18 (Int32.toNatClampNeg (x2)) (σ 15 (Int32.toNatClampNeg (x2)))) (fun s4 => f 2 (x1) (x2 + 1) 0 0 s4 τ) else none) else none))
def Mo_setNull_t28 (f : Nat → Int32 → Int32 → Int32 → Int32 → mS → mL → Option (Int32 × mS × mL)) (n : Nat) (x1 : Int32) (x2 : Int32) (x3 : Int32) (x4 : Int32) (σ : mS) (τ : mL) : Option (Int32 × mS × mL) := (if (4 : Int32) ≤ x2 then some (0, σ, τ) else (if σ 17 0 = 0 then f 42 (x1) (x2) ((0 : Int32)) 0 σ τ else some (0, σ, τ)))
def Mo_setNull_t42 (f : Nat → Int32 → Int32 → Int32 → Int32 → mS → mL → Option (Int32 × mS × mL)) (n : Nat) (x1 : Int32) (x2 : Int32) (x3 : Int32) (x4 : Int32) (σ : mS) (τ : mL) : Option (Int32 × mS × mL) := (if σ 16 0 ≤ x3 then f 28 (x1) (x2 + 1) 0 0 σ τ else (if ((x1) >>> (((x2) - ((1 : Int32))) &&& 31)) &&& ((1 : Int32)) = (1 : Int32) then (if x3 ≤ 0 then (if xin (x3) 25 = true then (if xin ((((5 : Int32)) * (x2)) + (x3)) 25 = true then bnd (su σ 15 (Int32.toNatClampNeg ((((5 : Int32)) * (x2)) + (x3))) (σ 18 (Int32.toNatClampNeg (x3)))) (fun s12 => (if xin (((5 : Int32)) * (x3)) 25 = true then (if xin ((((5 : Int32)) * (x3)) + (x2)) 25 = true then bnd (su s12 15 (Int32.toNatClampNeg ((((5 : Int32)) * (x3)) + (x2))) (s12 18 (Int32.toNatClampNeg (((5 : Int32)) * (x3))))) (fun s15 => f 42 (x1) (x2) (x3 + 1) 0 s15 τ) else none) else none)) else none) else none) else (if (4 : Int32) ≤ x3 then (if xin (x3) 25 = true then (if xin ((((5 : Int32)) * (x2)) + (x3)) 25 = true then bnd (su σ 15 (Int32.toNatClampNeg ((((5 : Int32)) * (x2)) + (x3))) (σ 18 (Int32.toNatClampNeg (x3)))) (fun s19 => (if xin (((5 : Int32)) * (x3)) 25 = true then (if xin ((((5 : Int32)) * (x3)) + (x2)) 25 = true then bnd (su s19 15 (Int32.toNatClampNeg ((((5 : Int32)) * (x3)) + (x2))) (s19 18 (Int32.toNatClampNeg (((5 : Int32)) * (x3))))) (fun s22 => f 42 (x1) (x2) (x3 + 1) 0 s22 τ) else none) else none)) else none) else none) else (if ((x1) >>> (((x3) - ((1 : Int32))) &&& 31)) &&& ((1 : Int32)) = (1 : Int32) then (if xin ((((5 : Int32)) * (x2)) + (x3)) 25 = true then bnd (su σ 15 (Int32.toNatClampNeg ((((5 : Int32)) * (x2)) + (x3))) ((1 : Int32))) (fun s31 => (if xin ((((5 : Int32)) * (x3)) + (x2)) 25 = true then bnd (su s31 15 (Int32.toNatClampNeg ((((5 : Int32)) * (x3)) + (x2))) ((1 : Int32))) (fun s33 => f 42 (x1) (x2) (x3 + 1) 0 s33 τ) else none)) else none) else (if xin (x3) 25 = true then (if xin ((((5 : Int32)) * (x2)) + (x3)) 25 = true then bnd (su σ 15 (Int32.toNatClampNeg ((((5 : Int32)) * (x2)) + (x3))) (σ 18 (Int32.toNatClampNeg (x3)))) (fun s26 => (if xin (((5 : Int32)) * (x3)) 25 = true then (if xin ((((5 : Int32)) * (x3)) + (x2)) 25 = true then bnd (su s26 15 (Int32.toNatClampNeg ((((5 : Int32)) * (x3)) + (x2))) (s26 18 (Int32.toNatClampNeg (((5 : Int32)) * (x3))))) (fun s29 => f 42 (x1) (x2) (x3 + 1) 0 s29 τ) else none) else none)) else none) else none)))) else f 28 (x1) (x2 + 1) 0 0 σ τ))
def Mo_setNull_f : Nat → Nat → Int32 → Int32 → Int32 → Int32 → mS → mL → Option (Int32 × mS × mL)
  | 0 => fun _ _ _ _ _ _ _ => none
  | n + 1 => fun p x1 x2 x3 x4 σ τ => if p = 0 then Mo_setNull_t0 (Mo_setNull_f n) n x1 x2 x3 x4 σ τ else if p = 2 then Mo_setNull_t2 (Mo_setNull_f n) n x1 x2 x3 x4 σ τ else if p = 28 then Mo_setNull_t28 (Mo_setNull_f n) n x1 x2 x3 x4 σ τ else if p = 42 then Mo_setNull_t42 (Mo_setNull_f n) n x1 x2 x3 x4 σ τ else none
theorem Mo_setNull_e0 (n : Nat) (x1 : Int32) (x2 : Int32) (x3 : Int32) (x4 : Int32) (σ : mS) (τ : mL) : Mo_setNull_f (n + 1) 0 x1 x2 x3 x4 σ τ = Mo_setNull_t0 (Mo_setNull_f n) n x1 x2 x3 x4 σ τ := by
  show (if 0 = 0 then Mo_setNull_t0 (Mo_setNull_f n) n x1 x2 x3 x4 σ τ else if 0 = 2 then Mo_setNull_t2 (Mo_setNull_f n) n x1 x2 x3 x4 σ τ else if 0 = 28 then Mo_setNull_t28 (Mo_setNull_f n) n x1 x2 x3 x4 σ τ else if 0 = 42 then Mo_setNull_t42 (Mo_setNull_f n) n x1 x2 x3 x4 σ τ else none) = _
  rw [if_pos rfl]
theorem Mo_setNull_e2 (n : Nat) (x1 : Int32) (x2 : Int32) (x3 : Int32) (x4 : Int32) (σ : mS) (τ : mL) : Mo_setNull_f (n + 1) 2 x1 x2 x3 x4 σ τ = Mo_setNull_t2 (Mo_setNull_f n) n x1 x2 x3 x4 σ τ := by
  show (if 2 = 0 then Mo_setNull_t0 (Mo_setNull_f n) n x1 x2 x3 x4 σ τ else if 2 = 2 then Mo_setNull_t2 (Mo_setNull_f n) n x1 x2 x3 x4 σ τ else if 2 = 28 then Mo_setNull_t28 (Mo_setNull_f n) n x1 x2 x3 x4 σ τ else if 2 = 42 then Mo_setNull_t42 (Mo_setNull_f n) n x1 x2 x3 x4 σ τ else none) = _
  rw [if_neg (by decide), if_pos rfl]
theorem Mo_setNull_e28 (n : Nat) (x1 : Int32) (x2 : Int32) (x3 : Int32) (x4 : Int32) (σ : mS) (τ : mL) : Mo_setNull_f (n + 1) 28 x1 x2 x3 x4 σ τ = Mo_setNull_t28 (Mo_setNull_f n) n x1 x2 x3 x4 σ τ := by
  show (if 28 = 0 then Mo_setNull_t0 (Mo_setNull_f n) n x1 x2 x3 x4 σ τ else if 28 = 2 then Mo_setNull_t2 (Mo_setNull_f n) n x1 x2 x3 x4 σ τ else if 28 = 28 then Mo_setNull_t28 (Mo_setNull_f n) n x1 x2 x3 x4 σ τ else if 28 = 42 then Mo_setNull_t42 (Mo_setNull_f n) n x1 x2 x3 x4 σ τ else none) = _
  rw [if_neg (by decide), if_neg (by decide), if_pos rfl]
theorem Mo_setNull_e42 (n : Nat) (x1 : Int32) (x2 : Int32) (x3 : Int32) (x4 : Int32) (σ : mS) (τ : mL) : Mo_setNull_f (n + 1) 42 x1 x2 x3 x4 σ τ = Mo_setNull_t42 (Mo_setNull_f n) n x1 x2 x3 x4 σ τ := by
  show (if 42 = 0 then Mo_setNull_t0 (Mo_setNull_f n) n x1 x2 x3 x4 σ τ else if 42 = 2 then Mo_setNull_t2 (Mo_setNull_f n) n x1 x2 x3 x4 σ τ else if 42 = 28 then Mo_setNull_t28 (Mo_setNull_f n) n x1 x2 x3 x4 σ τ else if 42 = 42 then Mo_setNull_t42 (Mo_setNull_f n) n x1 x2 x3 x4 σ τ else none) = _
  rw [if_neg (by decide), if_neg (by decide), if_neg (by decide), if_pos rfl]
set_option maxRecDepth 100000 in
set_option maxHeartbeats 8000000 in
theorem Mo_setNull_x {F : xF} {G : xG} {B : Nat} {M : xM} (C : xC F G B cMo_setNull RMo 5 0 0 0 0) (hr : (xFM F).sig.returnType = none) : ∀ (n : Nat) (x1 : Int32) (x2 : Int32) (x3 : Int32) (x4 : Int32) (σ : mS) (τ : mL) (R : Int32 × mS × mL), (Mo_setNull_f n 0 x1 x2 x3 x4 σ τ = some R → XM F G B (xZ F G B (mP M none R.2.1 R.2.2) 0 0) 5 M σ τ 0 [(0, .ref (M.1)), (1, .int (x1))] []) ∧ (Mo_setNull_f n 2 x1 x2 x3 x4 σ τ = some R → XM F G B (xZ F G B (mP M none R.2.1 R.2.2) 0 0) 5 M σ τ 2 [(0, .ref (M.1)), (1, .int (x1)), (2, .int (x2))] []) ∧ (Mo_setNull_f n 28 x1 x2 x3 x4 σ τ = some R → XM F G B (xZ F G B (mP M none R.2.1 R.2.2) 0 0) 5 M σ τ 28 [(0, .ref (M.1)), (1, .int (x1)), (2, .int (x2))] []) ∧ (Mo_setNull_f n 42 x1 x2 x3 x4 σ τ = some R → XM F G B (xZ F G B (mP M none R.2.1 R.2.2) 0 0) 5 M σ τ 42 [(0, .ref (M.1)), (1, .int (x1)), (2, .int (x2)), (3, .int (x3))] []) := by
  intro n
  induction n with
  | zero => exact fun _ _ _ _ _ _ _ => ⟨(fun hR => nomatch (show (none : Option _) = some _ from hR)), (fun hR => nomatch (show (none : Option _) = some _ from hR)), (fun hR => nomatch (show (none : Option _) = some _ from hR)), (fun hR => nomatch (show (none : Option _) = some _ from hR))⟩
  | succ n ih =>
    intro x1 x2 x3 x4 σ τ R
    refine ⟨fun hR => ?_, fun hR => ?_, fun hR => ?_, fun hR => ?_⟩
    · rw [Mo_setNull_e0] at hR
      unfold Mo_setNull_t0 at hR
      refine XM_iconst (v := 0) C dMo_setNull_0 rfl ?_
      refine XM_istore_n (lv' := [(2, .int ((0 : Int32))), (0, .ref (M.1)), (1, .int (x1))]) C dMo_setNull_1 (by decide) rfl ?_
      refine XM_sub (lv' := [(0, .ref (M.1)), (1, .int (x1)), (2, .int ((0 : Int32)))]) [1, 2, 0] rfl ?_
      exact (ih (x1) ((0 : Int32)) 0 0 _ _ _).2.1 hR
    · rw [Mo_setNull_e2] at hR
      unfold Mo_setNull_t2 at hR
      refine XM_iload_n C dMo_setNull_2 rfl ?_
      refine XM_bipush (v := 25) C dMo_setNull_3 (by decide) ?_
      refine XM_icmp_ge (tgt := 26) C dMo_setNull_5 (by decide) (fun c1 => ?_) (fun c1 => ?_)
      · rw [if_pos c1] at hR
        refine XM_iconst (v := 1) C dMo_setNull_26 rfl ?_
        refine XM_istore_n (lv' := [(2, .int ((1 : Int32))), (0, .ref (M.1)), (1, .int (x1))]) C dMo_setNull_27 (by decide) rfl ?_
        refine XM_sub (lv' := [(0, .ref (M.1)), (1, .int (x1)), (2, .int ((1 : Int32)))]) [1, 2, 0] rfl ?_
        exact (ih (x1) ((1 : Int32)) 0 0 _ _ _).2.2.1 hR
      · rw [if_neg c1] at hR
        refine XM_aload_n C dMo_setNull_8 rfl ?_
        refine XM_get (k := 18) (v := .ref (M.2.1 18)) C rfl fwMo_52 dMo_setNull_9 ?_
        refine XM_iload_n C dMo_setNull_12 rfl ?_
        refine XM_aload_n C dMo_setNull_13 rfl ?_
        refine XM_get (k := 15) (v := .ref (M.2.1 15)) C rfl fwMo_49 dMo_setNull_14 ?_
        refine XM_iload_n C dMo_setNull_17 rfl ?_
        obtain ⟨q2, hR⟩ := o_if hR
        refine XM_iald (k := 15) (n := 25) C rfl (xin_vp q2) dMo_setNull_18 ?_
        obtain ⟨q3, hR⟩ := o_if hR
        refine XM_iast (k := 18) (n := 25) C rfl (xin_vp q3) dMo_setNull_19 ?_
        obtain ⟨s4, es4, hR⟩ := b_bnd hR
        rw [← es4]
        refine XM_iinc (v := x2 + 1) (lv' := [(2, .int (x2 + 1)), (0, .ref (M.1)), (1, .int (x1))]) C dMo_setNull_20 rfl rfl (by decide) rfl ?_
        refine XM_goto (tgt := 2) C dMo_setNull_23 (by decide) ?_
        refine XM_sub (lv' := [(0, .ref (M.1)), (1, .int (x1)), (2, .int (x2 + 1))]) [1, 2, 0] rfl ?_
        exact (ih (x1) (x2 + 1) 0 0 _ _ _).2.1 hR
    · rw [Mo_setNull_e28] at hR
      unfold Mo_setNull_t28 at hR
      refine XM_iload_n C dMo_setNull_28 rfl ?_
      refine XM_iconst (v := 4) C dMo_setNull_29 rfl ?_
      refine XM_icmp_ge (tgt := 152) C dMo_setNull_30 (by decide) (fun c5 => ?_) (fun c5 => ?_)
      · rw [if_pos c5] at hR
        have hR := Option.some.inj hR
        subst hR
        exact XM_vret C hr dMo_setNull_152 rfl rfl rfl
      · rw [if_neg c5] at hR
        refine XM_aload_n C dMo_setNull_33 rfl ?_
        refine XM_get (k := 17) (v := .int (σ 17 0)) C rfl fwMo_167 dMo_setNull_34 ?_
        refine XM_if_ne (tgt := 152) C dMo_setNull_37 (by decide) (fun c6 => ?_) (fun c6 => ?_)
        · rw [if_neg c6] at hR
          have hR := Option.some.inj hR
          subst hR
          exact XM_vret C hr dMo_setNull_152 rfl rfl rfl
        · rw [if_pos c6] at hR
          refine XM_iconst (v := 0) C dMo_setNull_40 rfl ?_
          refine XM_istore_n (lv' := [(3, .int ((0 : Int32))), (0, .ref (M.1)), (1, .int (x1)), (2, .int (x2))]) C dMo_setNull_41 (by decide) rfl ?_
          refine XM_sub (lv' := [(0, .ref (M.1)), (1, .int (x1)), (2, .int (x2)), (3, .int ((0 : Int32)))]) [1, 2, 3, 0] rfl ?_
          exact (ih (x1) (x2) ((0 : Int32)) 0 _ _ _).2.2.2 hR
    · rw [Mo_setNull_e42] at hR
      unfold Mo_setNull_t42 at hR
      refine XM_iload_n C dMo_setNull_42 rfl ?_
      refine XM_aload_n C dMo_setNull_43 rfl ?_
      refine XM_get (k := 16) (v := .int (σ 16 0)) C rfl fwMo_164 dMo_setNull_44 ?_
      refine XM_icmp_ge (tgt := 146) C dMo_setNull_47 (by decide) (fun c7 => ?_) (fun c7 => ?_)
      · rw [if_pos c7] at hR
        refine XM_iinc (v := x2 + 1) (lv' := [(2, .int (x2 + 1)), (0, .ref (M.1)), (1, .int (x1)), (3, .int (x3))]) C dMo_setNull_146 rfl rfl (by decide) rfl ?_
        refine XM_goto (tgt := 28) C dMo_setNull_149 (by decide) ?_
        refine XM_sub (lv' := [(0, .ref (M.1)), (1, .int (x1)), (2, .int (x2 + 1))]) [1, 2, 0] rfl ?_
        exact (ih (x1) (x2 + 1) 0 0 _ _ _).2.2.1 hR
      · rw [if_neg c7] at hR
        refine XM_iload_n C dMo_setNull_50 rfl ?_
        refine XM_iload_n C dMo_setNull_51 rfl ?_
        refine XM_iconst (v := 1) C dMo_setNull_52 rfl ?_
        refine XM_isub C dMo_setNull_53 ?_
        refine XM_ishr C dMo_setNull_54 ?_
        refine XM_iconst (v := 1) C dMo_setNull_55 rfl ?_
        refine XM_iand C dMo_setNull_56 ?_
        refine XM_iconst (v := 1) C dMo_setNull_57 rfl ?_
        refine XM_icmp_ne (tgt := 146) C dMo_setNull_58 (by decide) (fun c8 => ?_) (fun c8 => ?_)
        · rw [if_neg c8] at hR
          refine XM_iinc (v := x2 + 1) (lv' := [(2, .int (x2 + 1)), (0, .ref (M.1)), (1, .int (x1)), (3, .int (x3))]) C dMo_setNull_146 rfl rfl (by decide) rfl ?_
          refine XM_goto (tgt := 28) C dMo_setNull_149 (by decide) ?_
          refine XM_sub (lv' := [(0, .ref (M.1)), (1, .int (x1)), (2, .int (x2 + 1))]) [1, 2, 0] rfl ?_
          exact (ih (x1) (x2 + 1) 0 0 _ _ _).2.2.1 hR
        · rw [if_pos c8] at hR
          refine XM_iload_n C dMo_setNull_61 rfl ?_
          refine XM_if_le (tgt := 85) C dMo_setNull_62 (by decide) (fun c9 => ?_) (fun c9 => ?_)
          · rw [if_pos c9] at hR
            refine XM_iconst (v := 0) C dMo_setNull_85 rfl ?_
            refine XM_istore (lv' := [(4, .int ((0 : Int32))), (0, .ref (M.1)), (1, .int (x1)), (2, .int (x2)), (3, .int (x3))]) C dMo_setNull_86 (by decide) rfl ?_
            refine XM_aload_n C dMo_setNull_88 rfl ?_
            refine XM_get (k := 15) (v := .ref (M.2.1 15)) C rfl fwMo_49 dMo_setNull_89 ?_
            refine XM_iconst (v := 5) C dMo_setNull_92 rfl ?_
            refine XM_iload_n C dMo_setNull_93 rfl ?_
            refine XM_imul C dMo_setNull_94 ?_
            refine XM_iload_n C dMo_setNull_95 rfl ?_
            refine XM_iadd C dMo_setNull_96 ?_
            refine XM_iload C dMo_setNull_97 rfl ?_
            refine XM_if_eq (tgt := 106) C dMo_setNull_99 (by decide) (fun _ => ?_) (fun c => absurd c (by decide))
            refine XM_aload_n C dMo_setNull_106 rfl ?_
            refine XM_get (k := 18) (v := .ref (M.2.1 18)) C rfl fwMo_52 dMo_setNull_107 ?_
            refine XM_iload_n C dMo_setNull_110 rfl ?_
            obtain ⟨q10, hR⟩ := o_if hR
            refine XM_iald (k := 18) (n := 25) C rfl (xin_vp q10) dMo_setNull_111 ?_
            obtain ⟨q11, hR⟩ := o_if hR
            refine XM_iast (k := 15) (n := 25) C rfl (xin_vp q11) dMo_setNull_112 ?_
            obtain ⟨s12, es12, hR⟩ := b_bnd hR
            rw [← es12]
            refine XM_aload_n C dMo_setNull_113 rfl ?_
            refine XM_get (k := 15) (v := .ref (M.2.1 15)) C rfl fwMo_49 dMo_setNull_114 ?_
            refine XM_iconst (v := 5) C dMo_setNull_117 rfl ?_
            refine XM_iload_n C dMo_setNull_118 rfl ?_
            refine XM_imul C dMo_setNull_119 ?_
            refine XM_iload_n C dMo_setNull_120 rfl ?_
            refine XM_iadd C dMo_setNull_121 ?_
            refine XM_iload C dMo_setNull_122 rfl ?_
            refine XM_if_eq (tgt := 131) C dMo_setNull_124 (by decide) (fun _ => ?_) (fun c => absurd c (by decide))
            refine XM_aload_n C dMo_setNull_131 rfl ?_
            refine XM_get (k := 18) (v := .ref (M.2.1 18)) C rfl fwMo_52 dMo_setNull_132 ?_
            refine XM_iconst (v := 5) C dMo_setNull_135 rfl ?_
            refine XM_iload_n C dMo_setNull_136 rfl ?_
            refine XM_imul C dMo_setNull_137 ?_
            obtain ⟨q13, hR⟩ := o_if hR
            refine XM_iald (k := 18) (n := 25) C rfl (xin_vp q13) dMo_setNull_138 ?_
            obtain ⟨q14, hR⟩ := o_if hR
            refine XM_iast (k := 15) (n := 25) C rfl (xin_vp q14) dMo_setNull_139 ?_
            obtain ⟨s15, es15, hR⟩ := b_bnd hR
            rw [← es15]
            refine XM_iinc (v := x3 + 1) (lv' := [(3, .int (x3 + 1)), (4, .int ((0 : Int32))), (0, .ref (M.1)), (1, .int (x1)), (2, .int (x2))]) C dMo_setNull_140 rfl rfl (by decide) rfl ?_
            refine XM_goto (tgt := 42) C dMo_setNull_143 (by decide) ?_
            refine XM_sub (lv' := [(0, .ref (M.1)), (1, .int (x1)), (2, .int (x2)), (3, .int (x3 + 1))]) [2, 3, 4, 0] rfl ?_
            exact (ih (x1) (x2) (x3 + 1) 0 _ _ _).2.2.2 hR
          · rw [if_neg c9] at hR
            refine XM_iload_n C dMo_setNull_65 rfl ?_
            refine XM_iconst (v := 4) C dMo_setNull_66 rfl ?_
            refine XM_icmp_ge (tgt := 85) C dMo_setNull_67 (by decide) (fun c16 => ?_) (fun c16 => ?_)
            · rw [if_pos c16] at hR
              refine XM_iconst (v := 0) C dMo_setNull_85 rfl ?_
              refine XM_istore (lv' := [(4, .int ((0 : Int32))), (0, .ref (M.1)), (1, .int (x1)), (2, .int (x2)), (3, .int (x3))]) C dMo_setNull_86 (by decide) rfl ?_
              refine XM_aload_n C dMo_setNull_88 rfl ?_
              refine XM_get (k := 15) (v := .ref (M.2.1 15)) C rfl fwMo_49 dMo_setNull_89 ?_
              refine XM_iconst (v := 5) C dMo_setNull_92 rfl ?_
              refine XM_iload_n C dMo_setNull_93 rfl ?_
              refine XM_imul C dMo_setNull_94 ?_
              refine XM_iload_n C dMo_setNull_95 rfl ?_
              refine XM_iadd C dMo_setNull_96 ?_
              refine XM_iload C dMo_setNull_97 rfl ?_
              refine XM_if_eq (tgt := 106) C dMo_setNull_99 (by decide) (fun _ => ?_) (fun c => absurd c (by decide))
              refine XM_aload_n C dMo_setNull_106 rfl ?_
              refine XM_get (k := 18) (v := .ref (M.2.1 18)) C rfl fwMo_52 dMo_setNull_107 ?_
              refine XM_iload_n C dMo_setNull_110 rfl ?_
              obtain ⟨q17, hR⟩ := o_if hR
              refine XM_iald (k := 18) (n := 25) C rfl (xin_vp q17) dMo_setNull_111 ?_
              obtain ⟨q18, hR⟩ := o_if hR
              refine XM_iast (k := 15) (n := 25) C rfl (xin_vp q18) dMo_setNull_112 ?_
              obtain ⟨s19, es19, hR⟩ := b_bnd hR
              rw [← es19]
              refine XM_aload_n C dMo_setNull_113 rfl ?_
              refine XM_get (k := 15) (v := .ref (M.2.1 15)) C rfl fwMo_49 dMo_setNull_114 ?_
              refine XM_iconst (v := 5) C dMo_setNull_117 rfl ?_
              refine XM_iload_n C dMo_setNull_118 rfl ?_
              refine XM_imul C dMo_setNull_119 ?_
              refine XM_iload_n C dMo_setNull_120 rfl ?_
              refine XM_iadd C dMo_setNull_121 ?_
              refine XM_iload C dMo_setNull_122 rfl ?_
              refine XM_if_eq (tgt := 131) C dMo_setNull_124 (by decide) (fun _ => ?_) (fun c => absurd c (by decide))
              refine XM_aload_n C dMo_setNull_131 rfl ?_
              refine XM_get (k := 18) (v := .ref (M.2.1 18)) C rfl fwMo_52 dMo_setNull_132 ?_
              refine XM_iconst (v := 5) C dMo_setNull_135 rfl ?_
              refine XM_iload_n C dMo_setNull_136 rfl ?_
              refine XM_imul C dMo_setNull_137 ?_
              obtain ⟨q20, hR⟩ := o_if hR
              refine XM_iald (k := 18) (n := 25) C rfl (xin_vp q20) dMo_setNull_138 ?_
              obtain ⟨q21, hR⟩ := o_if hR
              refine XM_iast (k := 15) (n := 25) C rfl (xin_vp q21) dMo_setNull_139 ?_
              obtain ⟨s22, es22, hR⟩ := b_bnd hR
              rw [← es22]
              refine XM_iinc (v := x3 + 1) (lv' := [(3, .int (x3 + 1)), (4, .int ((0 : Int32))), (0, .ref (M.1)), (1, .int (x1)), (2, .int (x2))]) C dMo_setNull_140 rfl rfl (by decide) rfl ?_
              refine XM_goto (tgt := 42) C dMo_setNull_143 (by decide) ?_
              refine XM_sub (lv' := [(0, .ref (M.1)), (1, .int (x1)), (2, .int (x2)), (3, .int (x3 + 1))]) [2, 3, 4, 0] rfl ?_
              exact (ih (x1) (x2) (x3 + 1) 0 _ _ _).2.2.2 hR
            · rw [if_neg c16] at hR
              refine XM_iload_n C dMo_setNull_70 rfl ?_
              refine XM_iload_n C dMo_setNull_71 rfl ?_
              refine XM_iconst (v := 1) C dMo_setNull_72 rfl ?_
              refine XM_isub C dMo_setNull_73 ?_
              refine XM_ishr C dMo_setNull_74 ?_
              refine XM_iconst (v := 1) C dMo_setNull_75 rfl ?_
              refine XM_iand C dMo_setNull_76 ?_
              refine XM_iconst (v := 1) C dMo_setNull_77 rfl ?_
              refine XM_icmp_ne (tgt := 85) C dMo_setNull_78 (by decide) (fun c23 => ?_) (fun c23 => ?_)
              · rw [if_neg c23] at hR
                refine XM_iconst (v := 0) C dMo_setNull_85 rfl ?_
                refine XM_istore (lv' := [(4, .int ((0 : Int32))), (0, .ref (M.1)), (1, .int (x1)), (2, .int (x2)), (3, .int (x3))]) C dMo_setNull_86 (by decide) rfl ?_
                refine XM_aload_n C dMo_setNull_88 rfl ?_
                refine XM_get (k := 15) (v := .ref (M.2.1 15)) C rfl fwMo_49 dMo_setNull_89 ?_
                refine XM_iconst (v := 5) C dMo_setNull_92 rfl ?_
                refine XM_iload_n C dMo_setNull_93 rfl ?_
                refine XM_imul C dMo_setNull_94 ?_
                refine XM_iload_n C dMo_setNull_95 rfl ?_
                refine XM_iadd C dMo_setNull_96 ?_
                refine XM_iload C dMo_setNull_97 rfl ?_
                refine XM_if_eq (tgt := 106) C dMo_setNull_99 (by decide) (fun _ => ?_) (fun c => absurd c (by decide))
                refine XM_aload_n C dMo_setNull_106 rfl ?_
                refine XM_get (k := 18) (v := .ref (M.2.1 18)) C rfl fwMo_52 dMo_setNull_107 ?_
                refine XM_iload_n C dMo_setNull_110 rfl ?_
                obtain ⟨q24, hR⟩ := o_if hR
                refine XM_iald (k := 18) (n := 25) C rfl (xin_vp q24) dMo_setNull_111 ?_
                obtain ⟨q25, hR⟩ := o_if hR
                refine XM_iast (k := 15) (n := 25) C rfl (xin_vp q25) dMo_setNull_112 ?_
                obtain ⟨s26, es26, hR⟩ := b_bnd hR
                rw [← es26]
                refine XM_aload_n C dMo_setNull_113 rfl ?_
                refine XM_get (k := 15) (v := .ref (M.2.1 15)) C rfl fwMo_49 dMo_setNull_114 ?_
                refine XM_iconst (v := 5) C dMo_setNull_117 rfl ?_
                refine XM_iload_n C dMo_setNull_118 rfl ?_
                refine XM_imul C dMo_setNull_119 ?_
                refine XM_iload_n C dMo_setNull_120 rfl ?_
                refine XM_iadd C dMo_setNull_121 ?_
                refine XM_iload C dMo_setNull_122 rfl ?_
                refine XM_if_eq (tgt := 131) C dMo_setNull_124 (by decide) (fun _ => ?_) (fun c => absurd c (by decide))
                refine XM_aload_n C dMo_setNull_131 rfl ?_
                refine XM_get (k := 18) (v := .ref (M.2.1 18)) C rfl fwMo_52 dMo_setNull_132 ?_
                refine XM_iconst (v := 5) C dMo_setNull_135 rfl ?_
                refine XM_iload_n C dMo_setNull_136 rfl ?_
                refine XM_imul C dMo_setNull_137 ?_
                obtain ⟨q27, hR⟩ := o_if hR
                refine XM_iald (k := 18) (n := 25) C rfl (xin_vp q27) dMo_setNull_138 ?_
                obtain ⟨q28, hR⟩ := o_if hR
                refine XM_iast (k := 15) (n := 25) C rfl (xin_vp q28) dMo_setNull_139 ?_
                obtain ⟨s29, es29, hR⟩ := b_bnd hR
                rw [← es29]
                refine XM_iinc (v := x3 + 1) (lv' := [(3, .int (x3 + 1)), (4, .int ((0 : Int32))), (0, .ref (M.1)), (1, .int (x1)), (2, .int (x2))]) C dMo_setNull_140 rfl rfl (by decide) rfl ?_
                refine XM_goto (tgt := 42) C dMo_setNull_143 (by decide) ?_
                refine XM_sub (lv' := [(0, .ref (M.1)), (1, .int (x1)), (2, .int (x2)), (3, .int (x3 + 1))]) [2, 3, 4, 0] rfl ?_
                exact (ih (x1) (x2) (x3 + 1) 0 _ _ _).2.2.2 hR
              · rw [if_pos c23] at hR
                refine XM_iconst (v := 1) C dMo_setNull_81 rfl ?_
                refine XM_goto (tgt := 86) C dMo_setNull_82 (by decide) ?_
                refine XM_istore (lv' := [(4, .int ((1 : Int32))), (0, .ref (M.1)), (1, .int (x1)), (2, .int (x2)), (3, .int (x3))]) C dMo_setNull_86 (by decide) rfl ?_
                refine XM_aload_n C dMo_setNull_88 rfl ?_
                refine XM_get (k := 15) (v := .ref (M.2.1 15)) C rfl fwMo_49 dMo_setNull_89 ?_
                refine XM_iconst (v := 5) C dMo_setNull_92 rfl ?_
                refine XM_iload_n C dMo_setNull_93 rfl ?_
                refine XM_imul C dMo_setNull_94 ?_
                refine XM_iload_n C dMo_setNull_95 rfl ?_
                refine XM_iadd C dMo_setNull_96 ?_
                refine XM_iload C dMo_setNull_97 rfl ?_
                refine XM_if_eq (tgt := 106) C dMo_setNull_99 (by decide) (fun c => absurd c (by decide)) (fun _ => ?_)
                refine XM_iconst (v := 1) C dMo_setNull_102 rfl ?_
                refine XM_goto (tgt := 112) C dMo_setNull_103 (by decide) ?_
                obtain ⟨q30, hR⟩ := o_if hR
                refine XM_iast (k := 15) (n := 25) C rfl (xin_vp q30) dMo_setNull_112 ?_
                obtain ⟨s31, es31, hR⟩ := b_bnd hR
                rw [← es31]
                refine XM_aload_n C dMo_setNull_113 rfl ?_
                refine XM_get (k := 15) (v := .ref (M.2.1 15)) C rfl fwMo_49 dMo_setNull_114 ?_
                refine XM_iconst (v := 5) C dMo_setNull_117 rfl ?_
                refine XM_iload_n C dMo_setNull_118 rfl ?_
                refine XM_imul C dMo_setNull_119 ?_
                refine XM_iload_n C dMo_setNull_120 rfl ?_
                refine XM_iadd C dMo_setNull_121 ?_
                refine XM_iload C dMo_setNull_122 rfl ?_
                refine XM_if_eq (tgt := 131) C dMo_setNull_124 (by decide) (fun c => absurd c (by decide)) (fun _ => ?_)
                refine XM_iconst (v := 1) C dMo_setNull_127 rfl ?_
                refine XM_goto (tgt := 139) C dMo_setNull_128 (by decide) ?_
                obtain ⟨q32, hR⟩ := o_if hR
                refine XM_iast (k := 15) (n := 25) C rfl (xin_vp q32) dMo_setNull_139 ?_
                obtain ⟨s33, es33, hR⟩ := b_bnd hR
                rw [← es33]
                refine XM_iinc (v := x3 + 1) (lv' := [(3, .int (x3 + 1)), (4, .int ((1 : Int32))), (0, .ref (M.1)), (1, .int (x1)), (2, .int (x2))]) C dMo_setNull_140 rfl rfl (by decide) rfl ?_
                refine XM_goto (tgt := 42) C dMo_setNull_143 (by decide) ?_
                refine XM_sub (lv' := [(0, .ref (M.1)), (1, .int (x1)), (2, .int (x2)), (3, .int (x3 + 1))]) [2, 3, 4, 0] rfl ?_
                exact (ih (x1) (x2) (x3 + 1) 0 _ _ _).2.2.2 hR
theorem Mo_setNull_c {l : Launch} {G : xG} {B : Nat} {M : xM} {n : Nat} {x1 : Int32} {σ : mS} {τ : mL} {R : Int32 × mS × mL} (hR : Mo_setNull_f n 0 x1 0 0 0 σ τ = some R) : mCon l yMo_setNull cMo_setNull 5 none 0 0 G B M [.ref M.1, .int x1] σ τ none R.2.1 R.2.2 := mCon.of (by decide) (Nat.le_of_ble_eq_true rfl) (fun F e C hr => XM_sub (lv' := [(0, .ref (M.1)), (1, .int (x1))]) [0, 1] rfl ((Mo_setNull_x C hr n x1 0 0 0 σ τ R).1 hR))
def Mo_let_t0 (f : Nat → Int32 → Int32 → Int32 → Int32 → mS → mL → Option (Int32 × mS × mL)) (n : Nat) (x1 : Int32) (x2 : Int32) (x3 : Int32) (x4 : Int32) (σ : mS) (τ : mL) : Option (Int32 × mS × mL) := f 2 ((0 : Int32)) 0 0 0 σ τ
def Mo_let_t2 (f : Nat → Int32 → Int32 → Int32 → Int32 → mS → mL → Option (Int32 × mS × mL)) (n : Nat) (x1 : Int32) (x2 : Int32) (x3 : Int32) (x4 : Int32) (σ : mS) (τ : mL) : Option (Int32 × mS × mL) := (if (4 : Int32) ≤ x1 then (if σ 17 0 = 0 then obd (Mo_close_f n 0 0 0 0 0 σ τ) (fun r3 => some (0, r3.2.1, r3.2.2)) else some (0, σ, τ)) else (if σ 17 0 = 0 then f 16 (x1) ((0 : Int32)) 0 0 σ τ else (if σ 17 0 = 0 then obd (Mo_close_f n 0 0 0 0 0 σ τ) (fun r6 => some (0, r6.2.1, r6.2.2)) else some (0, σ, τ))))
def Mo_let_t16 (f : Nat → Int32 → Int32 → Int32 → Int32 → mS → mL → Option (Int32 × mS × mL)) (n : Nat) (x1 : Int32) (x2 : Int32) (x3 : Int32) (x4 : Int32) (σ : mS) (τ : mL) : Option (Int32 × mS × mL) := (if (4 : Int32) ≤ x2 then f 2 (x1 + 1) 0 0 0 σ τ else (if xin ((((5 : Int32)) * (x1)) + (x2)) 25 = true then (if x1 = x2 then f 16 (x1) (x2 + 1) 0 0 σ τ else (if x1 ≤ 0 then (if xin (x2) 4 = true then (if -(σ 19 (Int32.toNatClampNeg (x2))) ≤ (σ 15 (Int32.toNatClampNeg ((((5 : Int32)) * (x1)) + (x2)))) >>> (((1 : Int32)) &&& 31) then (if x1 = 0 then (if σ 15 (Int32.toNatClampNeg ((((5 : Int32)) * (x1)) + (x2))) ≤ (1 : Int32) then (if xin ((((5 : Int32)) * (x1)) + (x2)) 25 = true then bnd (su σ 15 (Int32.toNatClampNeg ((((5 : Int32)) * (x1)) + (x2))) (σ 15 (Int32.toNatClampNeg ((((5 : Int32)) * (x1)) + (x2))))) (fun s18 => f 16 (x1) (x2 + 1) 0 0 s18 τ) else none) else (if xin ((((5 : Int32)) * (x1)) + (x2)) 25 = true then bnd (su σ 15 (Int32.toNatClampNeg ((((5 : Int32)) * (x1)) + (x2))) ((1 : Int32))) (fun s20 => f 16 (x1) (x2 + 1) 0 0 s20 τ) else none)) else (if xin ((((5 : Int32)) * (x1)) + (x2)) 25 = true then bnd (su σ 15 (Int32.toNatClampNeg ((((5 : Int32)) * (x1)) + (x2))) (σ 15 (Int32.toNatClampNeg ((((5 : Int32)) * (x1)) + (x2))))) (fun s15 => f 16 (x1) (x2 + 1) 0 0 s15 τ) else none)) else (if xin (x2) 4 = true then (if x1 = 0 then (if (((-2) : Int32)) * (σ 19 (Int32.toNatClampNeg (x2))) ≤ (1 : Int32) then (if xin ((((5 : Int32)) * (x1)) + (x2)) 25 = true then bnd (su σ 15 (Int32.toNatClampNeg ((((5 : Int32)) * (x1)) + (x2))) ((((-2) : Int32)) * (σ 19 (Int32.toNatClampNeg (x2))))) (fun s27 => f 16 (x1) (x2 + 1) 0 0 s27 τ) else none) else (if xin ((((5 : Int32)) * (x1)) + (x2)) 25 = true then bnd (su σ 15 (Int32.toNatClampNeg ((((5 : Int32)) * (x1)) + (x2))) ((1 : Int32))) (fun s29 => f 16 (x1) (x2 + 1) 0 0 s29 τ) else none)) else (if xin ((((5 : Int32)) * (x1)) + (x2)) 25 = true then bnd (su σ 15 (Int32.toNatClampNeg ((((5 : Int32)) * (x1)) + (x2))) ((((-2) : Int32)) * (σ 19 (Int32.toNatClampNeg (x2))))) (fun s24 => f 16 (x1) (x2 + 1) 0 0 s24 τ) else none)) else none)) else none) else (if xin (x1) 4 = true then (if (σ 15 (Int32.toNatClampNeg ((((5 : Int32)) * (x1)) + (x2)))) >>> (((1 : Int32)) &&& 31) ≤ σ 19 (Int32.toNatClampNeg (x1)) then (if xin (x2) 4 = true then (if -(σ 19 (Int32.toNatClampNeg (x2))) ≤ (σ 15 (Int32.toNatClampNeg ((((5 : Int32)) * (x1)) + (x2)))) >>> (((1 : Int32)) &&& 31) then (if x1 = 0 then (if σ 15 (Int32.toNatClampNeg ((((5 : Int32)) * (x1)) + (x2))) ≤ (1 : Int32) then (if xin ((((5 : Int32)) * (x1)) + (x2)) 25 = true then bnd (su σ 15 (Int32.toNatClampNeg ((((5 : Int32)) * (x1)) + (x2))) (σ 15 (Int32.toNatClampNeg ((((5 : Int32)) * (x1)) + (x2))))) (fun s39 => f 16 (x1) (x2 + 1) 0 0 s39 τ) else none) else (if xin ((((5 : Int32)) * (x1)) + (x2)) 25 = true then bnd (su σ 15 (Int32.toNatClampNeg ((((5 : Int32)) * (x1)) + (x2))) ((1 : Int32))) (fun s41 => f 16 (x1) (x2 + 1) 0 0 s41 τ) else none)) else (if xin ((((5 : Int32)) * (x1)) + (x2)) 25 = true then bnd (su σ 15 (Int32.toNatClampNeg ((((5 : Int32)) * (x1)) + (x2))) (σ 15 (Int32.toNatClampNeg ((((5 : Int32)) * (x1)) + (x2))))) (fun s36 => f 16 (x1) (x2 + 1) 0 0 s36 τ) else none)) else (if xin (x2) 4 = true then (if x1 = 0 then (if (((-2) : Int32)) * (σ 19 (Int32.toNatClampNeg (x2))) ≤ (1 : Int32) then (if xin ((((5 : Int32)) * (x1)) + (x2)) 25 = true then bnd (su σ 15 (Int32.toNatClampNeg ((((5 : Int32)) * (x1)) + (x2))) ((((-2) : Int32)) * (σ 19 (Int32.toNatClampNeg (x2))))) (fun s48 => f 16 (x1) (x2 + 1) 0 0 s48 τ) else none) else (if xin ((((5 : Int32)) * (x1)) + (x2)) 25 = true then bnd (su σ 15 (Int32.toNatClampNeg ((((5 : Int32)) * (x1)) + (x2))) ((1 : Int32))) (fun s50 => f 16 (x1) (x2 + 1) 0 0 s50 τ) else none)) else (if xin ((((5 : Int32)) * (x1)) + (x2)) 25 = true then bnd (su σ 15 (Int32.toNatClampNeg ((((5 : Int32)) * (x1)) + (x2))) ((((-2) : Int32)) * (σ 19 (Int32.toNatClampNeg (x2))))) (fun s45 => f 16 (x1) (x2 + 1) 0 0 s45 τ) else none)) else none)) else none) else (if x1 = 0 then (if xin ((((5 : Int32)) * (x1)) + (x2)) 25 = true then bnd (su σ 15 (Int32.toNatClampNeg ((((5 : Int32)) * (x1)) + (x2))) ((1 : Int32))) (fun s55 => f 16 (x1) (x2 + 1) 0 0 s55 τ) else none) else (if xin ((((5 : Int32)) * (x1)) + (x2)) 25 = true then bnd (su σ 15 (Int32.toNatClampNeg ((((5 : Int32)) * (x1)) + (x2))) ((1000000 : Int32))) (fun s53 => f 16 (x1) (x2 + 1) 0 0 s53 τ) else none))) else none))) else none))
def Mo_let_f : Nat → Nat → Int32 → Int32 → Int32 → Int32 → mS → mL → Option (Int32 × mS × mL)
  | 0 => fun _ _ _ _ _ _ _ => none
  | n + 1 => fun p x1 x2 x3 x4 σ τ => if p = 0 then Mo_let_t0 (Mo_let_f n) n x1 x2 x3 x4 σ τ else if p = 2 then Mo_let_t2 (Mo_let_f n) n x1 x2 x3 x4 σ τ else if p = 16 then Mo_let_t16 (Mo_let_f n) n x1 x2 x3 x4 σ τ else none
theorem Mo_let_e0 (n : Nat) (x1 : Int32) (x2 : Int32) (x3 : Int32) (x4 : Int32) (σ : mS) (τ : mL) : Mo_let_f (n + 1) 0 x1 x2 x3 x4 σ τ = Mo_let_t0 (Mo_let_f n) n x1 x2 x3 x4 σ τ := by
  show (if 0 = 0 then Mo_let_t0 (Mo_let_f n) n x1 x2 x3 x4 σ τ else if 0 = 2 then Mo_let_t2 (Mo_let_f n) n x1 x2 x3 x4 σ τ else if 0 = 16 then Mo_let_t16 (Mo_let_f n) n x1 x2 x3 x4 σ τ else none) = _
  rw [if_pos rfl]
theorem Mo_let_e2 (n : Nat) (x1 : Int32) (x2 : Int32) (x3 : Int32) (x4 : Int32) (σ : mS) (τ : mL) : Mo_let_f (n + 1) 2 x1 x2 x3 x4 σ τ = Mo_let_t2 (Mo_let_f n) n x1 x2 x3 x4 σ τ := by
  show (if 2 = 0 then Mo_let_t0 (Mo_let_f n) n x1 x2 x3 x4 σ τ else if 2 = 2 then Mo_let_t2 (Mo_let_f n) n x1 x2 x3 x4 σ τ else if 2 = 16 then Mo_let_t16 (Mo_let_f n) n x1 x2 x3 x4 σ τ else none) = _
  rw [if_neg (by decide), if_pos rfl]
theorem Mo_let_e16 (n : Nat) (x1 : Int32) (x2 : Int32) (x3 : Int32) (x4 : Int32) (σ : mS) (τ : mL) : Mo_let_f (n + 1) 16 x1 x2 x3 x4 σ τ = Mo_let_t16 (Mo_let_f n) n x1 x2 x3 x4 σ τ := by
  show (if 16 = 0 then Mo_let_t0 (Mo_let_f n) n x1 x2 x3 x4 σ τ else if 16 = 2 then Mo_let_t2 (Mo_let_f n) n x1 x2 x3 x4 σ τ else if 16 = 16 then Mo_let_t16 (Mo_let_f n) n x1 x2 x3 x4 σ τ else none) = _
  rw [if_neg (by decide), if_neg (by decide), if_pos rfl]
set_option maxRecDepth 100000 in
set_option maxHeartbeats 8000000 in
theorem Mo_let_x {F : xF} {G : xG} {B : Nat} {M : xM} (C : xC F G B cMo_let RMo 5 3 67 0 0) (hr : (xFM F).sig.returnType = none) : ∀ (n : Nat) (x1 : Int32) (x2 : Int32) (x3 : Int32) (x4 : Int32) (σ : mS) (τ : mL) (R : Int32 × mS × mL), (Mo_let_f n 0 x1 x2 x3 x4 σ τ = some R → XM F G B (xZ F G B (mP M none R.2.1 R.2.2) 0 0) 5 M σ τ 0 [(0, .ref (M.1))] []) ∧ (Mo_let_f n 2 x1 x2 x3 x4 σ τ = some R → XM F G B (xZ F G B (mP M none R.2.1 R.2.2) 0 0) 5 M σ τ 2 [(0, .ref (M.1)), (1, .int (x1))] []) ∧ (Mo_let_f n 16 x1 x2 x3 x4 σ τ = some R → XM F G B (xZ F G B (mP M none R.2.1 R.2.2) 0 0) 5 M σ τ 16 [(0, .ref (M.1)), (1, .int (x1)), (2, .int (x2))] []) := by
  intro n
  induction n with
  | zero => exact fun _ _ _ _ _ _ _ => ⟨(fun hR => nomatch (show (none : Option _) = some _ from hR)), (fun hR => nomatch (show (none : Option _) = some _ from hR)), (fun hR => nomatch (show (none : Option _) = some _ from hR))⟩
  | succ n ih =>
    intro x1 x2 x3 x4 σ τ R
    refine ⟨fun hR => ?_, fun hR => ?_, fun hR => ?_⟩
    · rw [Mo_let_e0] at hR
      unfold Mo_let_t0 at hR
      refine XM_iconst (v := 0) C dMo_let_0 rfl ?_
      refine XM_istore_n (lv' := [(1, .int ((0 : Int32))), (0, .ref (M.1))]) C dMo_let_1 (by decide) rfl ?_
      refine XM_sub (lv' := [(0, .ref (M.1)), (1, .int ((0 : Int32)))]) [1, 0] rfl ?_
      exact (ih ((0 : Int32)) 0 0 0 _ _ _).2.1 hR
    · rw [Mo_let_e2] at hR
      unfold Mo_let_t2 at hR
      refine XM_iload_n C dMo_let_2 rfl ?_
      refine XM_iconst (v := 4) C dMo_let_3 rfl ?_
      refine XM_icmp_ge (tgt := 124) C dMo_let_4 (by decide) (fun c1 => ?_) (fun c1 => ?_)
      · rw [if_pos c1] at hR
        refine XM_aload_n C dMo_let_124 rfl ?_
        refine XM_get (k := 17) (v := .int (σ 17 0)) C rfl fwMo_167 dMo_let_125 ?_
        refine XM_if_ne (tgt := 135) C dMo_let_128 (by decide) (fun c2 => ?_) (fun c2 => ?_)
        · rw [if_neg c2] at hR
          have hR := Option.some.inj hR
          subst hR
          exact XM_vret C hr dMo_let_135 rfl rfl rfl
        · rw [if_pos c2] at hR
          refine XM_aload_n C dMo_let_131 rfl ?_
          obtain ⟨r3, hr3, hR⟩ := o_bind hR
          refine XM_callVv (As := []) (rest := []) C (Mo_close_c hr3) wMo_176 ⟨by decide, by decide⟩ rfl rfl (Nat.le_of_ble_eq_true rfl) dMo_let_132 ?_
          have hR := Option.some.inj hR
          subst hR
          exact XM_vret C hr dMo_let_135 rfl rfl rfl
      · rw [if_neg c1] at hR
        refine XM_aload_n C dMo_let_7 rfl ?_
        refine XM_get (k := 17) (v := .int (σ 17 0)) C rfl fwMo_167 dMo_let_8 ?_
        refine XM_if_ne (tgt := 124) C dMo_let_11 (by decide) (fun c4 => ?_) (fun c4 => ?_)
        · rw [if_neg c4] at hR
          refine XM_aload_n C dMo_let_124 rfl ?_
          refine XM_get (k := 17) (v := .int (σ 17 0)) C rfl fwMo_167 dMo_let_125 ?_
          refine XM_if_ne (tgt := 135) C dMo_let_128 (by decide) (fun c5 => ?_) (fun c5 => ?_)
          · rw [if_neg c5] at hR
            have hR := Option.some.inj hR
            subst hR
            exact XM_vret C hr dMo_let_135 rfl rfl rfl
          · rw [if_pos c5] at hR
            refine XM_aload_n C dMo_let_131 rfl ?_
            obtain ⟨r6, hr6, hR⟩ := o_bind hR
            refine XM_callVv (As := []) (rest := []) C (Mo_close_c hr6) wMo_176 ⟨by decide, by decide⟩ rfl rfl (Nat.le_of_ble_eq_true rfl) dMo_let_132 ?_
            have hR := Option.some.inj hR
            subst hR
            exact XM_vret C hr dMo_let_135 rfl rfl rfl
        · rw [if_pos c4] at hR
          refine XM_iconst (v := 0) C dMo_let_14 rfl ?_
          refine XM_istore_n (lv' := [(2, .int ((0 : Int32))), (0, .ref (M.1)), (1, .int (x1))]) C dMo_let_15 (by decide) rfl ?_
          refine XM_sub (lv' := [(0, .ref (M.1)), (1, .int (x1)), (2, .int ((0 : Int32)))]) [1, 2, 0] rfl ?_
          exact (ih (x1) ((0 : Int32)) 0 0 _ _ _).2.2 hR
    · rw [Mo_let_e16] at hR
      unfold Mo_let_t16 at hR
      refine XM_iload_n C dMo_let_16 rfl ?_
      refine XM_iconst (v := 4) C dMo_let_17 rfl ?_
      refine XM_icmp_ge (tgt := 118) C dMo_let_18 (by decide) (fun c7 => ?_) (fun c7 => ?_)
      · rw [if_pos c7] at hR
        refine XM_iinc (v := x1 + 1) (lv' := [(1, .int (x1 + 1)), (0, .ref (M.1)), (2, .int (x2))]) C dMo_let_118 rfl rfl (by decide) rfl ?_
        refine XM_goto (tgt := 2) C dMo_let_121 (by decide) ?_
        refine XM_sub (lv' := [(0, .ref (M.1)), (1, .int (x1 + 1))]) [1, 0] rfl ?_
        exact (ih (x1 + 1) 0 0 0 _ _ _).2.1 hR
      · rw [if_neg c7] at hR
        refine XM_aload_n C dMo_let_21 rfl ?_
        refine XM_get (k := 15) (v := .ref (M.2.1 15)) C rfl fwMo_49 dMo_let_22 ?_
        refine XM_iconst (v := 5) C dMo_let_25 rfl ?_
        refine XM_iload_n C dMo_let_26 rfl ?_
        refine XM_imul C dMo_let_27 ?_
        refine XM_iload_n C dMo_let_28 rfl ?_
        refine XM_iadd C dMo_let_29 ?_
        obtain ⟨q8, hR⟩ := o_if hR
        refine XM_iald (k := 15) (n := 25) C rfl (xin_vp q8) dMo_let_30 ?_
        refine XM_istore_n (lv' := [(3, .int (σ 15 (Int32.toNatClampNeg ((((5 : Int32)) * (x1)) + (x2))))), (0, .ref (M.1)), (1, .int (x1)), (2, .int (x2))]) C dMo_let_31 (by decide) rfl ?_
        refine XM_iload_n C dMo_let_32 rfl ?_
        refine XM_iconst (v := 1) C dMo_let_33 rfl ?_
        refine XM_ishr C dMo_let_34 ?_
        refine XM_istore (lv' := [(4, .int ((σ 15 (Int32.toNatClampNeg ((((5 : Int32)) * (x1)) + (x2)))) >>> (((1 : Int32)) &&& 31))), (3, .int (σ 15 (Int32.toNatClampNeg ((((5 : Int32)) * (x1)) + (x2))))), (0, .ref (M.1)), (1, .int (x1)), (2, .int (x2))]) C dMo_let_35 (by decide) rfl ?_
        refine XM_iload_n C dMo_let_37 rfl ?_
        refine XM_iload_n C dMo_let_38 rfl ?_
        refine XM_icmp_ne (tgt := 45) C dMo_let_39 (by decide) (fun c9 => ?_) (fun c9 => ?_)
        · rw [if_neg c9] at hR
          refine XM_iload_n C dMo_let_45 rfl ?_
          refine XM_if_le (tgt := 66) C dMo_let_46 (by decide) (fun c10 => ?_) (fun c10 => ?_)
          · rw [if_pos c10] at hR
            refine XM_iload C dMo_let_66 rfl ?_
            refine XM_aload_n C dMo_let_68 rfl ?_
            refine XM_get (k := 19) (v := .ref (M.2.1 19)) C rfl fwMo_55 dMo_let_69 ?_
            refine XM_iload_n C dMo_let_72 rfl ?_
            obtain ⟨q11, hR⟩ := o_if hR
            refine XM_iald (k := 19) (n := 4) C rfl (xin_vp q11) dMo_let_73 ?_
            refine XM_ineg C dMo_let_74 ?_
            refine XM_icmp_ge (tgt := 88) C dMo_let_75 (by decide) (fun c12 => ?_) (fun c12 => ?_)
            · rw [if_pos c12] at hR
              refine XM_aload_n C dMo_let_88 rfl ?_
              refine XM_get (k := 15) (v := .ref (M.2.1 15)) C rfl fwMo_49 dMo_let_89 ?_
              refine XM_iconst (v := 5) C dMo_let_92 rfl ?_
              refine XM_iload_n C dMo_let_93 rfl ?_
              refine XM_imul C dMo_let_94 ?_
              refine XM_iload_n C dMo_let_95 rfl ?_
              refine XM_iadd C dMo_let_96 ?_
              refine XM_iload_n C dMo_let_97 rfl ?_
              refine XM_if_ne (tgt := 110) C dMo_let_98 (by decide) (fun c13 => ?_) (fun c13 => ?_)
              · rw [if_neg c13] at hR
                refine XM_iload_n C dMo_let_110 rfl ?_
                obtain ⟨q14, hR⟩ := o_if hR
                refine XM_iast (k := 15) (n := 25) C rfl (xin_vp q14) dMo_let_111 ?_
                obtain ⟨s15, es15, hR⟩ := b_bnd hR
                rw [← es15]
                refine XM_iinc (v := x2 + 1) (lv' := [(2, .int (x2 + 1)), (4, .int ((σ 15 (Int32.toNatClampNeg ((((5 : Int32)) * (x1)) + (x2)))) >>> (((1 : Int32)) &&& 31))), (3, .int (σ 15 (Int32.toNatClampNeg ((((5 : Int32)) * (x1)) + (x2))))), (0, .ref (M.1)), (1, .int (x1))]) C dMo_let_112 rfl rfl (by decide) rfl ?_
                refine XM_goto (tgt := 16) C dMo_let_115 (by decide) ?_
                refine XM_sub (lv' := [(0, .ref (M.1)), (1, .int (x1)), (2, .int (x2 + 1))]) [3, 4, 0] rfl ?_
                exact (ih (x1) (x2 + 1) 0 0 _ _ _).2.2 hR
              · rw [if_pos c13] at hR
                refine XM_iload_n C dMo_let_101 rfl ?_
                refine XM_iconst (v := 1) C dMo_let_102 rfl ?_
                refine XM_icmp_le (tgt := 110) C dMo_let_103 (by decide) (fun c16 => ?_) (fun c16 => ?_)
                · rw [if_pos c16] at hR
                  refine XM_iload_n C dMo_let_110 rfl ?_
                  obtain ⟨q17, hR⟩ := o_if hR
                  refine XM_iast (k := 15) (n := 25) C rfl (xin_vp q17) dMo_let_111 ?_
                  obtain ⟨s18, es18, hR⟩ := b_bnd hR
                  rw [← es18]
                  refine XM_iinc (v := x2 + 1) (lv' := [(2, .int (x2 + 1)), (4, .int ((σ 15 (Int32.toNatClampNeg ((((5 : Int32)) * (x1)) + (x2)))) >>> (((1 : Int32)) &&& 31))), (3, .int (σ 15 (Int32.toNatClampNeg ((((5 : Int32)) * (x1)) + (x2))))), (0, .ref (M.1)), (1, .int (x1))]) C dMo_let_112 rfl rfl (by decide) rfl ?_
                  refine XM_goto (tgt := 16) C dMo_let_115 (by decide) ?_
                  refine XM_sub (lv' := [(0, .ref (M.1)), (1, .int (x1)), (2, .int (x2 + 1))]) [3, 4, 0] rfl ?_
                  exact (ih (x1) (x2 + 1) 0 0 _ _ _).2.2 hR
                · rw [if_neg c16] at hR
                  refine XM_iconst (v := 1) C dMo_let_106 rfl ?_
                  refine XM_goto (tgt := 111) C dMo_let_107 (by decide) ?_
                  obtain ⟨q19, hR⟩ := o_if hR
                  refine XM_iast (k := 15) (n := 25) C rfl (xin_vp q19) dMo_let_111 ?_
                  obtain ⟨s20, es20, hR⟩ := b_bnd hR
                  rw [← es20]
                  refine XM_iinc (v := x2 + 1) (lv' := [(2, .int (x2 + 1)), (4, .int ((σ 15 (Int32.toNatClampNeg ((((5 : Int32)) * (x1)) + (x2)))) >>> (((1 : Int32)) &&& 31))), (3, .int (σ 15 (Int32.toNatClampNeg ((((5 : Int32)) * (x1)) + (x2))))), (0, .ref (M.1)), (1, .int (x1))]) C dMo_let_112 rfl rfl (by decide) rfl ?_
                  refine XM_goto (tgt := 16) C dMo_let_115 (by decide) ?_
                  refine XM_sub (lv' := [(0, .ref (M.1)), (1, .int (x1)), (2, .int (x2 + 1))]) [3, 4, 0] rfl ?_
                  exact (ih (x1) (x2 + 1) 0 0 _ _ _).2.2 hR
            · rw [if_neg c12] at hR
              refine XM_bipush (v := (-2)) C dMo_let_78 (by decide) ?_
              refine XM_aload_n C dMo_let_80 rfl ?_
              refine XM_get (k := 19) (v := .ref (M.2.1 19)) C rfl fwMo_55 dMo_let_81 ?_
              refine XM_iload_n C dMo_let_84 rfl ?_
              obtain ⟨q21, hR⟩ := o_if hR
              refine XM_iald (k := 19) (n := 4) C rfl (xin_vp q21) dMo_let_85 ?_
              refine XM_imul C dMo_let_86 ?_
              refine XM_istore_n (lv' := [(3, .int ((((-2) : Int32)) * (σ 19 (Int32.toNatClampNeg (x2))))), (4, .int ((σ 15 (Int32.toNatClampNeg ((((5 : Int32)) * (x1)) + (x2)))) >>> (((1 : Int32)) &&& 31))), (0, .ref (M.1)), (1, .int (x1)), (2, .int (x2))]) C dMo_let_87 (by decide) rfl ?_
              refine XM_aload_n C dMo_let_88 rfl ?_
              refine XM_get (k := 15) (v := .ref (M.2.1 15)) C rfl fwMo_49 dMo_let_89 ?_
              refine XM_iconst (v := 5) C dMo_let_92 rfl ?_
              refine XM_iload_n C dMo_let_93 rfl ?_
              refine XM_imul C dMo_let_94 ?_
              refine XM_iload_n C dMo_let_95 rfl ?_
              refine XM_iadd C dMo_let_96 ?_
              refine XM_iload_n C dMo_let_97 rfl ?_
              refine XM_if_ne (tgt := 110) C dMo_let_98 (by decide) (fun c22 => ?_) (fun c22 => ?_)
              · rw [if_neg c22] at hR
                refine XM_iload_n C dMo_let_110 rfl ?_
                obtain ⟨q23, hR⟩ := o_if hR
                refine XM_iast (k := 15) (n := 25) C rfl (xin_vp q23) dMo_let_111 ?_
                obtain ⟨s24, es24, hR⟩ := b_bnd hR
                rw [← es24]
                refine XM_iinc (v := x2 + 1) (lv' := [(2, .int (x2 + 1)), (3, .int ((((-2) : Int32)) * (σ 19 (Int32.toNatClampNeg (x2))))), (4, .int ((σ 15 (Int32.toNatClampNeg ((((5 : Int32)) * (x1)) + (x2)))) >>> (((1 : Int32)) &&& 31))), (0, .ref (M.1)), (1, .int (x1))]) C dMo_let_112 rfl rfl (by decide) rfl ?_
                refine XM_goto (tgt := 16) C dMo_let_115 (by decide) ?_
                refine XM_sub (lv' := [(0, .ref (M.1)), (1, .int (x1)), (2, .int (x2 + 1))]) [3, 4, 0] rfl ?_
                exact (ih (x1) (x2 + 1) 0 0 _ _ _).2.2 hR
              · rw [if_pos c22] at hR
                refine XM_iload_n C dMo_let_101 rfl ?_
                refine XM_iconst (v := 1) C dMo_let_102 rfl ?_
                refine XM_icmp_le (tgt := 110) C dMo_let_103 (by decide) (fun c25 => ?_) (fun c25 => ?_)
                · rw [if_pos c25] at hR
                  refine XM_iload_n C dMo_let_110 rfl ?_
                  obtain ⟨q26, hR⟩ := o_if hR
                  refine XM_iast (k := 15) (n := 25) C rfl (xin_vp q26) dMo_let_111 ?_
                  obtain ⟨s27, es27, hR⟩ := b_bnd hR
                  rw [← es27]
                  refine XM_iinc (v := x2 + 1) (lv' := [(2, .int (x2 + 1)), (3, .int ((((-2) : Int32)) * (σ 19 (Int32.toNatClampNeg (x2))))), (4, .int ((σ 15 (Int32.toNatClampNeg ((((5 : Int32)) * (x1)) + (x2)))) >>> (((1 : Int32)) &&& 31))), (0, .ref (M.1)), (1, .int (x1))]) C dMo_let_112 rfl rfl (by decide) rfl ?_
                  refine XM_goto (tgt := 16) C dMo_let_115 (by decide) ?_
                  refine XM_sub (lv' := [(0, .ref (M.1)), (1, .int (x1)), (2, .int (x2 + 1))]) [3, 4, 0] rfl ?_
                  exact (ih (x1) (x2 + 1) 0 0 _ _ _).2.2 hR
                · rw [if_neg c25] at hR
                  refine XM_iconst (v := 1) C dMo_let_106 rfl ?_
                  refine XM_goto (tgt := 111) C dMo_let_107 (by decide) ?_
                  obtain ⟨q28, hR⟩ := o_if hR
                  refine XM_iast (k := 15) (n := 25) C rfl (xin_vp q28) dMo_let_111 ?_
                  obtain ⟨s29, es29, hR⟩ := b_bnd hR
                  rw [← es29]
                  refine XM_iinc (v := x2 + 1) (lv' := [(2, .int (x2 + 1)), (3, .int ((((-2) : Int32)) * (σ 19 (Int32.toNatClampNeg (x2))))), (4, .int ((σ 15 (Int32.toNatClampNeg ((((5 : Int32)) * (x1)) + (x2)))) >>> (((1 : Int32)) &&& 31))), (0, .ref (M.1)), (1, .int (x1))]) C dMo_let_112 rfl rfl (by decide) rfl ?_
                  refine XM_goto (tgt := 16) C dMo_let_115 (by decide) ?_
                  refine XM_sub (lv' := [(0, .ref (M.1)), (1, .int (x1)), (2, .int (x2 + 1))]) [3, 4, 0] rfl ?_
                  exact (ih (x1) (x2 + 1) 0 0 _ _ _).2.2 hR
          · rw [if_neg c10] at hR
            refine XM_iload C dMo_let_49 rfl ?_
            refine XM_aload_n C dMo_let_51 rfl ?_
            refine XM_get (k := 19) (v := .ref (M.2.1 19)) C rfl fwMo_55 dMo_let_52 ?_
            refine XM_iload_n C dMo_let_55 rfl ?_
            obtain ⟨q30, hR⟩ := o_if hR
            refine XM_iald (k := 19) (n := 4) C rfl (xin_vp q30) dMo_let_56 ?_
            refine XM_icmp_le (tgt := 66) C dMo_let_57 (by decide) (fun c31 => ?_) (fun c31 => ?_)
            · rw [if_pos c31] at hR
              refine XM_iload C dMo_let_66 rfl ?_
              refine XM_aload_n C dMo_let_68 rfl ?_
              refine XM_get (k := 19) (v := .ref (M.2.1 19)) C rfl fwMo_55 dMo_let_69 ?_
              refine XM_iload_n C dMo_let_72 rfl ?_
              obtain ⟨q32, hR⟩ := o_if hR
              refine XM_iald (k := 19) (n := 4) C rfl (xin_vp q32) dMo_let_73 ?_
              refine XM_ineg C dMo_let_74 ?_
              refine XM_icmp_ge (tgt := 88) C dMo_let_75 (by decide) (fun c33 => ?_) (fun c33 => ?_)
              · rw [if_pos c33] at hR
                refine XM_aload_n C dMo_let_88 rfl ?_
                refine XM_get (k := 15) (v := .ref (M.2.1 15)) C rfl fwMo_49 dMo_let_89 ?_
                refine XM_iconst (v := 5) C dMo_let_92 rfl ?_
                refine XM_iload_n C dMo_let_93 rfl ?_
                refine XM_imul C dMo_let_94 ?_
                refine XM_iload_n C dMo_let_95 rfl ?_
                refine XM_iadd C dMo_let_96 ?_
                refine XM_iload_n C dMo_let_97 rfl ?_
                refine XM_if_ne (tgt := 110) C dMo_let_98 (by decide) (fun c34 => ?_) (fun c34 => ?_)
                · rw [if_neg c34] at hR
                  refine XM_iload_n C dMo_let_110 rfl ?_
                  obtain ⟨q35, hR⟩ := o_if hR
                  refine XM_iast (k := 15) (n := 25) C rfl (xin_vp q35) dMo_let_111 ?_
                  obtain ⟨s36, es36, hR⟩ := b_bnd hR
                  rw [← es36]
                  refine XM_iinc (v := x2 + 1) (lv' := [(2, .int (x2 + 1)), (4, .int ((σ 15 (Int32.toNatClampNeg ((((5 : Int32)) * (x1)) + (x2)))) >>> (((1 : Int32)) &&& 31))), (3, .int (σ 15 (Int32.toNatClampNeg ((((5 : Int32)) * (x1)) + (x2))))), (0, .ref (M.1)), (1, .int (x1))]) C dMo_let_112 rfl rfl (by decide) rfl ?_
                  refine XM_goto (tgt := 16) C dMo_let_115 (by decide) ?_
                  refine XM_sub (lv' := [(0, .ref (M.1)), (1, .int (x1)), (2, .int (x2 + 1))]) [3, 4, 0] rfl ?_
                  exact (ih (x1) (x2 + 1) 0 0 _ _ _).2.2 hR
                · rw [if_pos c34] at hR
                  refine XM_iload_n C dMo_let_101 rfl ?_
                  refine XM_iconst (v := 1) C dMo_let_102 rfl ?_
                  refine XM_icmp_le (tgt := 110) C dMo_let_103 (by decide) (fun c37 => ?_) (fun c37 => ?_)
                  · rw [if_pos c37] at hR
                    refine XM_iload_n C dMo_let_110 rfl ?_
                    obtain ⟨q38, hR⟩ := o_if hR
                    refine XM_iast (k := 15) (n := 25) C rfl (xin_vp q38) dMo_let_111 ?_
                    obtain ⟨s39, es39, hR⟩ := b_bnd hR
                    rw [← es39]
                    refine XM_iinc (v := x2 + 1) (lv' := [(2, .int (x2 + 1)), (4, .int ((σ 15 (Int32.toNatClampNeg ((((5 : Int32)) * (x1)) + (x2)))) >>> (((1 : Int32)) &&& 31))), (3, .int (σ 15 (Int32.toNatClampNeg ((((5 : Int32)) * (x1)) + (x2))))), (0, .ref (M.1)), (1, .int (x1))]) C dMo_let_112 rfl rfl (by decide) rfl ?_
                    refine XM_goto (tgt := 16) C dMo_let_115 (by decide) ?_
                    refine XM_sub (lv' := [(0, .ref (M.1)), (1, .int (x1)), (2, .int (x2 + 1))]) [3, 4, 0] rfl ?_
                    exact (ih (x1) (x2 + 1) 0 0 _ _ _).2.2 hR
                  · rw [if_neg c37] at hR
                    refine XM_iconst (v := 1) C dMo_let_106 rfl ?_
                    refine XM_goto (tgt := 111) C dMo_let_107 (by decide) ?_
                    obtain ⟨q40, hR⟩ := o_if hR
                    refine XM_iast (k := 15) (n := 25) C rfl (xin_vp q40) dMo_let_111 ?_
                    obtain ⟨s41, es41, hR⟩ := b_bnd hR
                    rw [← es41]
                    refine XM_iinc (v := x2 + 1) (lv' := [(2, .int (x2 + 1)), (4, .int ((σ 15 (Int32.toNatClampNeg ((((5 : Int32)) * (x1)) + (x2)))) >>> (((1 : Int32)) &&& 31))), (3, .int (σ 15 (Int32.toNatClampNeg ((((5 : Int32)) * (x1)) + (x2))))), (0, .ref (M.1)), (1, .int (x1))]) C dMo_let_112 rfl rfl (by decide) rfl ?_
                    refine XM_goto (tgt := 16) C dMo_let_115 (by decide) ?_
                    refine XM_sub (lv' := [(0, .ref (M.1)), (1, .int (x1)), (2, .int (x2 + 1))]) [3, 4, 0] rfl ?_
                    exact (ih (x1) (x2 + 1) 0 0 _ _ _).2.2 hR
              · rw [if_neg c33] at hR
                refine XM_bipush (v := (-2)) C dMo_let_78 (by decide) ?_
                refine XM_aload_n C dMo_let_80 rfl ?_
                refine XM_get (k := 19) (v := .ref (M.2.1 19)) C rfl fwMo_55 dMo_let_81 ?_
                refine XM_iload_n C dMo_let_84 rfl ?_
                obtain ⟨q42, hR⟩ := o_if hR
                refine XM_iald (k := 19) (n := 4) C rfl (xin_vp q42) dMo_let_85 ?_
                refine XM_imul C dMo_let_86 ?_
                refine XM_istore_n (lv' := [(3, .int ((((-2) : Int32)) * (σ 19 (Int32.toNatClampNeg (x2))))), (4, .int ((σ 15 (Int32.toNatClampNeg ((((5 : Int32)) * (x1)) + (x2)))) >>> (((1 : Int32)) &&& 31))), (0, .ref (M.1)), (1, .int (x1)), (2, .int (x2))]) C dMo_let_87 (by decide) rfl ?_
                refine XM_aload_n C dMo_let_88 rfl ?_
                refine XM_get (k := 15) (v := .ref (M.2.1 15)) C rfl fwMo_49 dMo_let_89 ?_
                refine XM_iconst (v := 5) C dMo_let_92 rfl ?_
                refine XM_iload_n C dMo_let_93 rfl ?_
                refine XM_imul C dMo_let_94 ?_
                refine XM_iload_n C dMo_let_95 rfl ?_
                refine XM_iadd C dMo_let_96 ?_
                refine XM_iload_n C dMo_let_97 rfl ?_
                refine XM_if_ne (tgt := 110) C dMo_let_98 (by decide) (fun c43 => ?_) (fun c43 => ?_)
                · rw [if_neg c43] at hR
                  refine XM_iload_n C dMo_let_110 rfl ?_
                  obtain ⟨q44, hR⟩ := o_if hR
                  refine XM_iast (k := 15) (n := 25) C rfl (xin_vp q44) dMo_let_111 ?_
                  obtain ⟨s45, es45, hR⟩ := b_bnd hR
                  rw [← es45]
                  refine XM_iinc (v := x2 + 1) (lv' := [(2, .int (x2 + 1)), (3, .int ((((-2) : Int32)) * (σ 19 (Int32.toNatClampNeg (x2))))), (4, .int ((σ 15 (Int32.toNatClampNeg ((((5 : Int32)) * (x1)) + (x2)))) >>> (((1 : Int32)) &&& 31))), (0, .ref (M.1)), (1, .int (x1))]) C dMo_let_112 rfl rfl (by decide) rfl ?_
                  refine XM_goto (tgt := 16) C dMo_let_115 (by decide) ?_
                  refine XM_sub (lv' := [(0, .ref (M.1)), (1, .int (x1)), (2, .int (x2 + 1))]) [3, 4, 0] rfl ?_
                  exact (ih (x1) (x2 + 1) 0 0 _ _ _).2.2 hR
                · rw [if_pos c43] at hR
                  refine XM_iload_n C dMo_let_101 rfl ?_
                  refine XM_iconst (v := 1) C dMo_let_102 rfl ?_
                  refine XM_icmp_le (tgt := 110) C dMo_let_103 (by decide) (fun c46 => ?_) (fun c46 => ?_)
                  · rw [if_pos c46] at hR
                    refine XM_iload_n C dMo_let_110 rfl ?_
                    obtain ⟨q47, hR⟩ := o_if hR
                    refine XM_iast (k := 15) (n := 25) C rfl (xin_vp q47) dMo_let_111 ?_
                    obtain ⟨s48, es48, hR⟩ := b_bnd hR
                    rw [← es48]
                    refine XM_iinc (v := x2 + 1) (lv' := [(2, .int (x2 + 1)), (3, .int ((((-2) : Int32)) * (σ 19 (Int32.toNatClampNeg (x2))))), (4, .int ((σ 15 (Int32.toNatClampNeg ((((5 : Int32)) * (x1)) + (x2)))) >>> (((1 : Int32)) &&& 31))), (0, .ref (M.1)), (1, .int (x1))]) C dMo_let_112 rfl rfl (by decide) rfl ?_
                    refine XM_goto (tgt := 16) C dMo_let_115 (by decide) ?_
                    refine XM_sub (lv' := [(0, .ref (M.1)), (1, .int (x1)), (2, .int (x2 + 1))]) [3, 4, 0] rfl ?_
                    exact (ih (x1) (x2 + 1) 0 0 _ _ _).2.2 hR
                  · rw [if_neg c46] at hR
                    refine XM_iconst (v := 1) C dMo_let_106 rfl ?_
                    refine XM_goto (tgt := 111) C dMo_let_107 (by decide) ?_
                    obtain ⟨q49, hR⟩ := o_if hR
                    refine XM_iast (k := 15) (n := 25) C rfl (xin_vp q49) dMo_let_111 ?_
                    obtain ⟨s50, es50, hR⟩ := b_bnd hR
                    rw [← es50]
                    refine XM_iinc (v := x2 + 1) (lv' := [(2, .int (x2 + 1)), (3, .int ((((-2) : Int32)) * (σ 19 (Int32.toNatClampNeg (x2))))), (4, .int ((σ 15 (Int32.toNatClampNeg ((((5 : Int32)) * (x1)) + (x2)))) >>> (((1 : Int32)) &&& 31))), (0, .ref (M.1)), (1, .int (x1))]) C dMo_let_112 rfl rfl (by decide) rfl ?_
                    refine XM_goto (tgt := 16) C dMo_let_115 (by decide) ?_
                    refine XM_sub (lv' := [(0, .ref (M.1)), (1, .int (x1)), (2, .int (x2 + 1))]) [3, 4, 0] rfl ?_
                    exact (ih (x1) (x2 + 1) 0 0 _ _ _).2.2 hR
            · rw [if_neg c31] at hR
              refine XM_ldc (v := 1000000) C kMo_171 dMo_let_60 ?_
              refine XM_istore_n (lv' := [(3, .int ((1000000 : Int32))), (4, .int ((σ 15 (Int32.toNatClampNeg ((((5 : Int32)) * (x1)) + (x2)))) >>> (((1 : Int32)) &&& 31))), (0, .ref (M.1)), (1, .int (x1)), (2, .int (x2))]) C dMo_let_62 (by decide) rfl ?_
              refine XM_goto (tgt := 88) C dMo_let_63 (by decide) ?_
              refine XM_aload_n C dMo_let_88 rfl ?_
              refine XM_get (k := 15) (v := .ref (M.2.1 15)) C rfl fwMo_49 dMo_let_89 ?_
              refine XM_iconst (v := 5) C dMo_let_92 rfl ?_
              refine XM_iload_n C dMo_let_93 rfl ?_
              refine XM_imul C dMo_let_94 ?_
              refine XM_iload_n C dMo_let_95 rfl ?_
              refine XM_iadd C dMo_let_96 ?_
              refine XM_iload_n C dMo_let_97 rfl ?_
              refine XM_if_ne (tgt := 110) C dMo_let_98 (by decide) (fun c51 => ?_) (fun c51 => ?_)
              · rw [if_neg c51] at hR
                refine XM_iload_n C dMo_let_110 rfl ?_
                obtain ⟨q52, hR⟩ := o_if hR
                refine XM_iast (k := 15) (n := 25) C rfl (xin_vp q52) dMo_let_111 ?_
                obtain ⟨s53, es53, hR⟩ := b_bnd hR
                rw [← es53]
                refine XM_iinc (v := x2 + 1) (lv' := [(2, .int (x2 + 1)), (3, .int ((1000000 : Int32))), (4, .int ((σ 15 (Int32.toNatClampNeg ((((5 : Int32)) * (x1)) + (x2)))) >>> (((1 : Int32)) &&& 31))), (0, .ref (M.1)), (1, .int (x1))]) C dMo_let_112 rfl rfl (by decide) rfl ?_
                refine XM_goto (tgt := 16) C dMo_let_115 (by decide) ?_
                refine XM_sub (lv' := [(0, .ref (M.1)), (1, .int (x1)), (2, .int (x2 + 1))]) [3, 4, 0] rfl ?_
                exact (ih (x1) (x2 + 1) 0 0 _ _ _).2.2 hR
              · rw [if_pos c51] at hR
                refine XM_iload_n C dMo_let_101 rfl ?_
                refine XM_iconst (v := 1) C dMo_let_102 rfl ?_
                refine XM_icmp_le (tgt := 110) C dMo_let_103 (by decide) (fun c => absurd c (by decide)) (fun _ => ?_)
                refine XM_iconst (v := 1) C dMo_let_106 rfl ?_
                refine XM_goto (tgt := 111) C dMo_let_107 (by decide) ?_
                obtain ⟨q54, hR⟩ := o_if hR
                refine XM_iast (k := 15) (n := 25) C rfl (xin_vp q54) dMo_let_111 ?_
                obtain ⟨s55, es55, hR⟩ := b_bnd hR
                rw [← es55]
                refine XM_iinc (v := x2 + 1) (lv' := [(2, .int (x2 + 1)), (3, .int ((1000000 : Int32))), (4, .int ((σ 15 (Int32.toNatClampNeg ((((5 : Int32)) * (x1)) + (x2)))) >>> (((1 : Int32)) &&& 31))), (0, .ref (M.1)), (1, .int (x1))]) C dMo_let_112 rfl rfl (by decide) rfl ?_
                refine XM_goto (tgt := 16) C dMo_let_115 (by decide) ?_
                refine XM_sub (lv' := [(0, .ref (M.1)), (1, .int (x1)), (2, .int (x2 + 1))]) [3, 4, 0] rfl ?_
                exact (ih (x1) (x2 + 1) 0 0 _ _ _).2.2 hR
        · rw [if_pos c9] at hR
          refine XM_goto (tgt := 112) C dMo_let_42 (by decide) ?_
          refine XM_iinc (v := x2 + 1) (lv' := [(2, .int (x2 + 1)), (4, .int ((σ 15 (Int32.toNatClampNeg ((((5 : Int32)) * (x1)) + (x2)))) >>> (((1 : Int32)) &&& 31))), (3, .int (σ 15 (Int32.toNatClampNeg ((((5 : Int32)) * (x1)) + (x2))))), (0, .ref (M.1)), (1, .int (x1))]) C dMo_let_112 rfl rfl (by decide) rfl ?_
          refine XM_goto (tgt := 16) C dMo_let_115 (by decide) ?_
          refine XM_sub (lv' := [(0, .ref (M.1)), (1, .int (x1)), (2, .int (x2 + 1))]) [3, 4, 0] rfl ?_
          exact (ih (x1) (x2 + 1) 0 0 _ _ _).2.2 hR
theorem Mo_let_c {l : Launch} {G : xG} {B : Nat} {M : xM} {n : Nat} {σ : mS} {τ : mL} {R : Int32 × mS × mL} (hR : Mo_let_f n 0 0 0 0 0 σ τ = some R) : mCon l yMo_let cMo_let 5 none 3 67 G B M [.ref M.1] σ τ none R.2.1 R.2.2 := mCon.of (by decide) (Nat.le_of_ble_eq_true rfl) (fun F e C hr => XM_sub (lv' := [(0, .ref (M.1))]) [0] rfl ((Mo_let_x C hr n 0 0 0 0 σ τ R).1 hR))
def Mo_showZone_t0 (f : Nat → Int32 → Int32 → mS → mL → Option (Int32 × mS × mL)) (n : Nat) (x1 : Int32) (x2 : Int32) (σ : mS) (τ : mL) : Option (Int32 × mS × mL) := bnd (su σ 16 0 ((4 : Int32))) (fun s1 => bnd (su s1 17 0 ((0 : Int32))) (fun s2 => f 12 (x1) ((0 : Int32)) s2 τ))
def Mo_showZone_t12 (f : Nat → Int32 → Int32 → mS → mL → Option (Int32 × mS × mL)) (n : Nat) (x1 : Int32) (x2 : Int32) (σ : mS) (τ : mL) : Option (Int32 × mS × mL) := (if (25 : Int32) ≤ x2 then some (0, σ, τ) else (if xin ((((25 : Int32)) * (x1)) + (x2)) 5000 = true then (if xin (x2) 25 = true then bnd (su σ 15 (Int32.toNatClampNeg (x2)) (σ 25 (Int32.toNatClampNeg ((((25 : Int32)) * (x1)) + (x2))))) (fun s6 => f 12 (x1) (x2 + 1) s6 τ) else none) else none))
def Mo_showZone_f : Nat → Nat → Int32 → Int32 → mS → mL → Option (Int32 × mS × mL)
  | 0 => fun _ _ _ _ _ => none
  | n + 1 => fun p x1 x2 σ τ => if p = 0 then Mo_showZone_t0 (Mo_showZone_f n) n x1 x2 σ τ else if p = 12 then Mo_showZone_t12 (Mo_showZone_f n) n x1 x2 σ τ else none
theorem Mo_showZone_e0 (n : Nat) (x1 : Int32) (x2 : Int32) (σ : mS) (τ : mL) : Mo_showZone_f (n + 1) 0 x1 x2 σ τ = Mo_showZone_t0 (Mo_showZone_f n) n x1 x2 σ τ := by
  show (if 0 = 0 then Mo_showZone_t0 (Mo_showZone_f n) n x1 x2 σ τ else if 0 = 12 then Mo_showZone_t12 (Mo_showZone_f n) n x1 x2 σ τ else none) = _
  rw [if_pos rfl]
theorem Mo_showZone_e12 (n : Nat) (x1 : Int32) (x2 : Int32) (σ : mS) (τ : mL) : Mo_showZone_f (n + 1) 12 x1 x2 σ τ = Mo_showZone_t12 (Mo_showZone_f n) n x1 x2 σ τ := by
  show (if 12 = 0 then Mo_showZone_t0 (Mo_showZone_f n) n x1 x2 σ τ else if 12 = 12 then Mo_showZone_t12 (Mo_showZone_f n) n x1 x2 σ τ else none) = _
  rw [if_neg (by decide), if_pos rfl]
set_option maxRecDepth 100000 in
set_option maxHeartbeats 8000000 in
theorem Mo_showZone_x {F : xF} {G : xG} {B : Nat} {M : xM} (C : xC F G B cMo_showZone RMo 3 0 0 0 0) (hr : (xFM F).sig.returnType = none) : ∀ (n : Nat) (x1 : Int32) (x2 : Int32) (σ : mS) (τ : mL) (R : Int32 × mS × mL), (Mo_showZone_f n 0 x1 x2 σ τ = some R → XM F G B (xZ F G B (mP M none R.2.1 R.2.2) 0 0) 3 M σ τ 0 [(0, .ref (M.1)), (1, .int (x1))] []) ∧ (Mo_showZone_f n 12 x1 x2 σ τ = some R → XM F G B (xZ F G B (mP M none R.2.1 R.2.2) 0 0) 3 M σ τ 12 [(0, .ref (M.1)), (1, .int (x1)), (2, .int (x2))] []) := by
  intro n
  induction n with
  | zero => exact fun _ _ _ _ _ => ⟨(fun hR => nomatch (show (none : Option _) = some _ from hR)), (fun hR => nomatch (show (none : Option _) = some _ from hR))⟩
  | succ n ih =>
    intro x1 x2 σ τ R
    refine ⟨fun hR => ?_, fun hR => ?_⟩
    · rw [Mo_showZone_e0] at hR
      unfold Mo_showZone_t0 at hR
      refine XM_aload_n C dMo_showZone_0 rfl ?_
      refine XM_iconst (v := 4) C dMo_showZone_1 rfl ?_
      refine XM_put (k := 16) C rfl fwMo_164 rfl rfl rfl dMo_showZone_2 ?_
      obtain ⟨s1, es1, hR⟩ := b_bnd hR
      rw [← es1]
      refine XM_aload_n C dMo_showZone_5 rfl ?_
      refine XM_iconst (v := 0) C dMo_showZone_6 rfl ?_
      refine XM_put (k := 17) C rfl fwMo_167 rfl rfl rfl dMo_showZone_7 ?_
      obtain ⟨s2, es2, hR⟩ := b_bnd hR
      rw [← es2]
      refine XM_iconst (v := 0) C dMo_showZone_10 rfl ?_
      refine XM_istore_n (lv' := [(2, .int ((0 : Int32))), (0, .ref (M.1)), (1, .int (x1))]) C dMo_showZone_11 (by decide) rfl ?_
      refine XM_sub (lv' := [(0, .ref (M.1)), (1, .int (x1)), (2, .int ((0 : Int32)))]) [1, 2, 0] rfl ?_
      exact (ih (x1) ((0 : Int32)) _ _ _).2 hR
    · rw [Mo_showZone_e12] at hR
      unfold Mo_showZone_t12 at hR
      refine XM_iload_n C dMo_showZone_12 rfl ?_
      refine XM_bipush (v := 25) C dMo_showZone_13 (by decide) ?_
      refine XM_icmp_ge (tgt := 41) C dMo_showZone_15 (by decide) (fun c3 => ?_) (fun c3 => ?_)
      · rw [if_pos c3] at hR
        have hR := Option.some.inj hR
        subst hR
        exact XM_vret C hr dMo_showZone_41 rfl rfl rfl
      · rw [if_neg c3] at hR
        refine XM_aload_n C dMo_showZone_18 rfl ?_
        refine XM_get (k := 15) (v := .ref (M.2.1 15)) C rfl fwMo_49 dMo_showZone_19 ?_
        refine XM_iload_n C dMo_showZone_22 rfl ?_
        refine XM_aload_n C dMo_showZone_23 rfl ?_
        refine XM_get (k := 25) (v := .ref (M.2.1 25)) C rfl fwMo_61 dMo_showZone_24 ?_
        refine XM_bipush (v := 25) C dMo_showZone_27 (by decide) ?_
        refine XM_iload_n C dMo_showZone_29 rfl ?_
        refine XM_imul C dMo_showZone_30 ?_
        refine XM_iload_n C dMo_showZone_31 rfl ?_
        refine XM_iadd C dMo_showZone_32 ?_
        obtain ⟨q4, hR⟩ := o_if hR
        refine XM_iald (k := 25) (n := 5000) C rfl (xin_vp q4) dMo_showZone_33 ?_
        obtain ⟨q5, hR⟩ := o_if hR
        refine XM_iast (k := 15) (n := 25) C rfl (xin_vp q5) dMo_showZone_34 ?_
        obtain ⟨s6, es6, hR⟩ := b_bnd hR
        rw [← es6]
        refine XM_iinc (v := x2 + 1) (lv' := [(2, .int (x2 + 1)), (0, .ref (M.1)), (1, .int (x1))]) C dMo_showZone_35 rfl rfl (by decide) rfl ?_
        refine XM_goto (tgt := 12) C dMo_showZone_38 (by decide) ?_
        refine XM_sub (lv' := [(0, .ref (M.1)), (1, .int (x1)), (2, .int (x2 + 1))]) [1, 2, 0] rfl ?_
        exact (ih (x1) (x2 + 1) _ _ _).2 hR
theorem Mo_showZone_c {l : Launch} {G : xG} {B : Nat} {M : xM} {n : Nat} {x1 : Int32} {σ : mS} {τ : mL} {R : Int32 × mS × mL} (hR : Mo_showZone_f n 0 x1 0 σ τ = some R) : mCon l yMo_showZone cMo_showZone 3 none 0 0 G B M [.ref M.1, .int x1] σ τ none R.2.1 R.2.2 := mCon.of (by decide) (Nat.le_of_ble_eq_true rfl) (fun F e C hr => XM_sub (lv' := [(0, .ref (M.1)), (1, .int (x1))]) [0, 1] rfl ((Mo_showZone_x C hr n x1 0 σ τ R).1 hR))
def Mo_limitAll_t0 (f : Nat → Int32 → Int32 → Int32 → mS → mL → Option (Int32 × mS × mL)) (n : Nat) (x1 : Int32) (x2 : Int32) (x3 : Int32) (σ : mS) (τ : mL) : Option (Int32 × mS × mL) := f 2 ((0 : Int32)) 0 0 σ τ
def Mo_limitAll_t2 (f : Nat → Int32 → Int32 → Int32 → mS → mL → Option (Int32 × mS × mL)) (n : Nat) (x1 : Int32) (x2 : Int32) (x3 : Int32) (σ : mS) (τ : mL) : Option (Int32 × mS × mL) := (if σ 1 0 ≤ x1 then some (0, σ, τ) else (if xin (x1) 3 = true then f 24 (x1) ((((6 : Int32)) * (x1)) + (σ 38 (Int32.toNatClampNeg (x1)))) ((0 : Int32)) σ τ else none))
def Mo_limitAll_t24 (f : Nat → Int32 → Int32 → Int32 → mS → mL → Option (Int32 × mS × mL)) (n : Nat) (x1 : Int32) (x2 : Int32) (x3 : Int32) (σ : mS) (τ : mL) : Option (Int32 × mS × mL) := (if xin (x2) 18 = true then (if σ 4 (Int32.toNatClampNeg (x2)) ≤ x3 then f 2 (x1 + 1) 0 0 σ τ else (if xin ((((2 : Int32)) * (x2)) + (x3)) 36 = true then (if xin ((((2 : Int32)) * (x2)) + (x3)) 36 = true then obd (Mo_tightenBy_f n (σ 5 (Int32.toNatClampNeg ((((2 : Int32)) * (x2)) + (x3)))) ((0 : Int32)) (σ 6 (Int32.toNatClampNeg ((((2 : Int32)) * (x2)) + (x3)))) σ τ) (fun r7 => f 24 (x1) (x2) (x3 + 1) r7.2.1 r7.2.2) else none) else none)) else none)
def Mo_limitAll_f : Nat → Nat → Int32 → Int32 → Int32 → mS → mL → Option (Int32 × mS × mL)
  | 0 => fun _ _ _ _ _ _ => none
  | n + 1 => fun p x1 x2 x3 σ τ => if p = 0 then Mo_limitAll_t0 (Mo_limitAll_f n) n x1 x2 x3 σ τ else if p = 2 then Mo_limitAll_t2 (Mo_limitAll_f n) n x1 x2 x3 σ τ else if p = 24 then Mo_limitAll_t24 (Mo_limitAll_f n) n x1 x2 x3 σ τ else none
theorem Mo_limitAll_e0 (n : Nat) (x1 : Int32) (x2 : Int32) (x3 : Int32) (σ : mS) (τ : mL) : Mo_limitAll_f (n + 1) 0 x1 x2 x3 σ τ = Mo_limitAll_t0 (Mo_limitAll_f n) n x1 x2 x3 σ τ := by
  show (if 0 = 0 then Mo_limitAll_t0 (Mo_limitAll_f n) n x1 x2 x3 σ τ else if 0 = 2 then Mo_limitAll_t2 (Mo_limitAll_f n) n x1 x2 x3 σ τ else if 0 = 24 then Mo_limitAll_t24 (Mo_limitAll_f n) n x1 x2 x3 σ τ else none) = _
  rw [if_pos rfl]
theorem Mo_limitAll_e2 (n : Nat) (x1 : Int32) (x2 : Int32) (x3 : Int32) (σ : mS) (τ : mL) : Mo_limitAll_f (n + 1) 2 x1 x2 x3 σ τ = Mo_limitAll_t2 (Mo_limitAll_f n) n x1 x2 x3 σ τ := by
  show (if 2 = 0 then Mo_limitAll_t0 (Mo_limitAll_f n) n x1 x2 x3 σ τ else if 2 = 2 then Mo_limitAll_t2 (Mo_limitAll_f n) n x1 x2 x3 σ τ else if 2 = 24 then Mo_limitAll_t24 (Mo_limitAll_f n) n x1 x2 x3 σ τ else none) = _
  rw [if_neg (by decide), if_pos rfl]
theorem Mo_limitAll_e24 (n : Nat) (x1 : Int32) (x2 : Int32) (x3 : Int32) (σ : mS) (τ : mL) : Mo_limitAll_f (n + 1) 24 x1 x2 x3 σ τ = Mo_limitAll_t24 (Mo_limitAll_f n) n x1 x2 x3 σ τ := by
  show (if 24 = 0 then Mo_limitAll_t0 (Mo_limitAll_f n) n x1 x2 x3 σ τ else if 24 = 2 then Mo_limitAll_t2 (Mo_limitAll_f n) n x1 x2 x3 σ τ else if 24 = 24 then Mo_limitAll_t24 (Mo_limitAll_f n) n x1 x2 x3 σ τ else none) = _
  rw [if_neg (by decide), if_neg (by decide), if_pos rfl]
set_option maxRecDepth 100000 in
set_option maxHeartbeats 8000000 in
theorem Mo_limitAll_x {F : xF} {G : xG} {B : Nat} {M : xM} (C : xC F G B cMo_limitAll RMo 4 4 90 0 0) (hr : (xFM F).sig.returnType = none) : ∀ (n : Nat) (x1 : Int32) (x2 : Int32) (x3 : Int32) (σ : mS) (τ : mL) (R : Int32 × mS × mL), (Mo_limitAll_f n 0 x1 x2 x3 σ τ = some R → XM F G B (xZ F G B (mP M none R.2.1 R.2.2) 0 0) 4 M σ τ 0 [(0, .ref (M.1))] []) ∧ (Mo_limitAll_f n 2 x1 x2 x3 σ τ = some R → XM F G B (xZ F G B (mP M none R.2.1 R.2.2) 0 0) 4 M σ τ 2 [(0, .ref (M.1)), (1, .int (x1))] []) ∧ (Mo_limitAll_f n 24 x1 x2 x3 σ τ = some R → XM F G B (xZ F G B (mP M none R.2.1 R.2.2) 0 0) 4 M σ τ 24 [(0, .ref (M.1)), (1, .int (x1)), (2, .int (x2)), (3, .int (x3))] []) := by
  intro n
  induction n with
  | zero => exact fun _ _ _ _ _ _ => ⟨(fun hR => nomatch (show (none : Option _) = some _ from hR)), (fun hR => nomatch (show (none : Option _) = some _ from hR)), (fun hR => nomatch (show (none : Option _) = some _ from hR))⟩
  | succ n ih =>
    intro x1 x2 x3 σ τ R
    refine ⟨fun hR => ?_, fun hR => ?_, fun hR => ?_⟩
    · rw [Mo_limitAll_e0] at hR
      unfold Mo_limitAll_t0 at hR
      refine XM_iconst (v := 0) C dMo_limitAll_0 rfl ?_
      refine XM_istore_n (lv' := [(1, .int ((0 : Int32))), (0, .ref (M.1))]) C dMo_limitAll_1 (by decide) rfl ?_
      refine XM_sub (lv' := [(0, .ref (M.1)), (1, .int ((0 : Int32)))]) [1, 0] rfl ?_
      exact (ih ((0 : Int32)) 0 0 _ _ _).2.1 hR
    · rw [Mo_limitAll_e2] at hR
      unfold Mo_limitAll_t2 at hR
      refine XM_iload_n C dMo_limitAll_2 rfl ?_
      refine XM_aload_n C dMo_limitAll_3 rfl ?_
      refine XM_get (k := 1) (v := .int (σ 1 0)) C rfl fwMo_128 dMo_limitAll_4 ?_
      refine XM_icmp_ge (tgt := 71) C dMo_limitAll_7 (by decide) (fun c1 => ?_) (fun c1 => ?_)
      · rw [if_pos c1] at hR
        have hR := Option.some.inj hR
        subst hR
        exact XM_vret C hr dMo_limitAll_71 rfl rfl rfl
      · rw [if_neg c1] at hR
        refine XM_bipush (v := 6) C dMo_limitAll_10 (by decide) ?_
        refine XM_iload_n C dMo_limitAll_12 rfl ?_
        refine XM_imul C dMo_limitAll_13 ?_
        refine XM_aload_n C dMo_limitAll_14 rfl ?_
        refine XM_get (k := 38) (v := .ref (M.2.1 38)) C rfl fwMo_89 dMo_limitAll_15 ?_
        refine XM_iload_n C dMo_limitAll_18 rfl ?_
        obtain ⟨q2, hR⟩ := o_if hR
        refine XM_iald (k := 38) (n := 3) C rfl (xin_vp q2) dMo_limitAll_19 ?_
        refine XM_iadd C dMo_limitAll_20 ?_
        refine XM_istore_n (lv' := [(2, .int ((((6 : Int32)) * (x1)) + (σ 38 (Int32.toNatClampNeg (x1))))), (0, .ref (M.1)), (1, .int (x1))]) C dMo_limitAll_21 (by decide) rfl ?_
        refine XM_iconst (v := 0) C dMo_limitAll_22 rfl ?_
        refine XM_istore_n (lv' := [(3, .int ((0 : Int32))), (2, .int ((((6 : Int32)) * (x1)) + (σ 38 (Int32.toNatClampNeg (x1))))), (0, .ref (M.1)), (1, .int (x1))]) C dMo_limitAll_23 (by decide) rfl ?_
        refine XM_sub (lv' := [(0, .ref (M.1)), (1, .int (x1)), (2, .int ((((6 : Int32)) * (x1)) + (σ 38 (Int32.toNatClampNeg (x1))))), (3, .int ((0 : Int32)))]) [2, 3, 1, 0] rfl ?_
        exact (ih (x1) ((((6 : Int32)) * (x1)) + (σ 38 (Int32.toNatClampNeg (x1)))) ((0 : Int32)) _ _ _).2.2 hR
    · rw [Mo_limitAll_e24] at hR
      unfold Mo_limitAll_t24 at hR
      refine XM_iload_n C dMo_limitAll_24 rfl ?_
      refine XM_aload_n C dMo_limitAll_25 rfl ?_
      refine XM_get (k := 4) (v := .ref (M.2.1 4)) C rfl fwMo_16 dMo_limitAll_26 ?_
      refine XM_iload_n C dMo_limitAll_29 rfl ?_
      obtain ⟨q3, hR⟩ := o_if hR
      refine XM_iald (k := 4) (n := 18) C rfl (xin_vp q3) dMo_limitAll_30 ?_
      refine XM_icmp_ge (tgt := 65) C dMo_limitAll_31 (by decide) (fun c4 => ?_) (fun c4 => ?_)
      · rw [if_pos c4] at hR
        refine XM_iinc (v := x1 + 1) (lv' := [(1, .int (x1 + 1)), (0, .ref (M.1)), (2, .int (x2)), (3, .int (x3))]) C dMo_limitAll_65 rfl rfl (by decide) rfl ?_
        refine XM_goto (tgt := 2) C dMo_limitAll_68 (by decide) ?_
        refine XM_sub (lv' := [(0, .ref (M.1)), (1, .int (x1 + 1))]) [1, 0] rfl ?_
        exact (ih (x1 + 1) 0 0 _ _ _).2.1 hR
      · rw [if_neg c4] at hR
        refine XM_aload_n C dMo_limitAll_34 rfl ?_
        refine XM_aload_n C dMo_limitAll_35 rfl ?_
        refine XM_get (k := 5) (v := .ref (M.2.1 5)) C rfl fwMo_19 dMo_limitAll_36 ?_
        refine XM_iconst (v := 2) C dMo_limitAll_39 rfl ?_
        refine XM_iload_n C dMo_limitAll_40 rfl ?_
        refine XM_imul C dMo_limitAll_41 ?_
        refine XM_iload_n C dMo_limitAll_42 rfl ?_
        refine XM_iadd C dMo_limitAll_43 ?_
        obtain ⟨q5, hR⟩ := o_if hR
        refine XM_iald (k := 5) (n := 36) C rfl (xin_vp q5) dMo_limitAll_44 ?_
        refine XM_iconst (v := 0) C dMo_limitAll_45 rfl ?_
        refine XM_aload_n C dMo_limitAll_46 rfl ?_
        refine XM_get (k := 6) (v := .ref (M.2.1 6)) C rfl fwMo_22 dMo_limitAll_47 ?_
        refine XM_iconst (v := 2) C dMo_limitAll_50 rfl ?_
        refine XM_iload_n C dMo_limitAll_51 rfl ?_
        refine XM_imul C dMo_limitAll_52 ?_
        refine XM_iload_n C dMo_limitAll_53 rfl ?_
        refine XM_iadd C dMo_limitAll_54 ?_
        obtain ⟨q6, hR⟩ := o_if hR
        refine XM_iald (k := 6) (n := 36) C rfl (xin_vp q6) dMo_limitAll_55 ?_
        obtain ⟨r7, hr7, hR⟩ := o_bind hR
        refine XM_callVv (As := [.int (σ 5 (Int32.toNatClampNeg ((((2 : Int32)) * (x2)) + (x3)))), .int ((0 : Int32)), .int (σ 6 (Int32.toNatClampNeg ((((2 : Int32)) * (x2)) + (x3))))]) (rest := []) C (Mo_tightenBy_c hr7) wMo_179 ⟨by decide, by decide⟩ rfl rfl (Nat.le_of_ble_eq_true rfl) dMo_limitAll_56 ?_
        refine XM_iinc (v := x3 + 1) (lv' := [(3, .int (x3 + 1)), (0, .ref (M.1)), (1, .int (x1)), (2, .int (x2))]) C dMo_limitAll_59 rfl rfl (by decide) rfl ?_
        refine XM_goto (tgt := 24) C dMo_limitAll_62 (by decide) ?_
        refine XM_sub (lv' := [(0, .ref (M.1)), (1, .int (x1)), (2, .int (x2)), (3, .int (x3 + 1))]) [1, 2, 3, 0] rfl ?_
        exact (ih (x1) (x2) (x3 + 1) _ _ _).2.2 hR
theorem Mo_limitAll_c {l : Launch} {G : xG} {B : Nat} {M : xM} {n : Nat} {σ : mS} {τ : mL} {R : Int32 × mS × mL} (hR : Mo_limitAll_f n 0 0 0 0 σ τ = some R) : mCon l yMo_limitAll cMo_limitAll 4 none 4 90 G B M [.ref M.1] σ τ none R.2.1 R.2.2 := mCon.of (by decide) (Nat.le_of_ble_eq_true rfl) (fun F e C hr => XM_sub (lv' := [(0, .ref (M.1))]) [0] rfl ((Mo_limitAll_x C hr n 0 0 0 σ τ R).1 hR))
def Mo_testAll_t0 (f : Nat → Int32 → Int32 → Int32 → Int32 → mS → mL → Option (Int32 × mS × mL)) (n : Nat) (x1 : Int32) (x2 : Int32) (x3 : Int32) (x4 : Int32) (σ : mS) (τ : mL) : Option (Int32 × mS × mL) := f 10 (x1) (x2) ((((12 : Int32)) * (x1)) + (x2)) ((0 : Int32)) σ τ
def Mo_testAll_t10 (f : Nat → Int32 → Int32 → Int32 → Int32 → mS → mL → Option (Int32 × mS × mL)) (n : Nat) (x1 : Int32) (x2 : Int32) (x3 : Int32) (x4 : Int32) (σ : mS) (τ : mL) : Option (Int32 × mS × mL) := (if xin (x3) 36 = true then (if σ 11 (Int32.toNatClampNeg (x3)) ≤ x4 then some (0, σ, τ) else (if xin ((((3 : Int32)) * (x3)) + (x4)) 108 = true then (if xin ((((3 : Int32)) * (x3)) + (x4)) 108 = true then (if xin ((((3 : Int32)) * (x3)) + (x4)) 108 = true then obd (Mo_tightenBy_f n (σ 12 (Int32.toNatClampNeg ((((3 : Int32)) * (x3)) + (x4)))) (σ 13 (Int32.toNatClampNeg ((((3 : Int32)) * (x3)) + (x4)))) (σ 14 (Int32.toNatClampNeg ((((3 : Int32)) * (x3)) + (x4)))) σ τ) (fun r6 => f 10 (x1) (x2) (x3) (x4 + 1) r6.2.1 r6.2.2) else none) else none) else none)) else none)
def Mo_testAll_f : Nat → Nat → Int32 → Int32 → Int32 → Int32 → mS → mL → Option (Int32 × mS × mL)
  | 0 => fun _ _ _ _ _ _ _ => none
  | n + 1 => fun p x1 x2 x3 x4 σ τ => if p = 0 then Mo_testAll_t0 (Mo_testAll_f n) n x1 x2 x3 x4 σ τ else if p = 10 then Mo_testAll_t10 (Mo_testAll_f n) n x1 x2 x3 x4 σ τ else none
theorem Mo_testAll_e0 (n : Nat) (x1 : Int32) (x2 : Int32) (x3 : Int32) (x4 : Int32) (σ : mS) (τ : mL) : Mo_testAll_f (n + 1) 0 x1 x2 x3 x4 σ τ = Mo_testAll_t0 (Mo_testAll_f n) n x1 x2 x3 x4 σ τ := by
  show (if 0 = 0 then Mo_testAll_t0 (Mo_testAll_f n) n x1 x2 x3 x4 σ τ else if 0 = 10 then Mo_testAll_t10 (Mo_testAll_f n) n x1 x2 x3 x4 σ τ else none) = _
  rw [if_pos rfl]
theorem Mo_testAll_e10 (n : Nat) (x1 : Int32) (x2 : Int32) (x3 : Int32) (x4 : Int32) (σ : mS) (τ : mL) : Mo_testAll_f (n + 1) 10 x1 x2 x3 x4 σ τ = Mo_testAll_t10 (Mo_testAll_f n) n x1 x2 x3 x4 σ τ := by
  show (if 10 = 0 then Mo_testAll_t0 (Mo_testAll_f n) n x1 x2 x3 x4 σ τ else if 10 = 10 then Mo_testAll_t10 (Mo_testAll_f n) n x1 x2 x3 x4 σ τ else none) = _
  rw [if_neg (by decide), if_pos rfl]
set_option maxRecDepth 100000 in
set_option maxHeartbeats 8000000 in
theorem Mo_testAll_x {F : xF} {G : xG} {B : Nat} {M : xM} (C : xC F G B cMo_testAll RMo 5 4 90 0 0) (hr : (xFM F).sig.returnType = none) : ∀ (n : Nat) (x1 : Int32) (x2 : Int32) (x3 : Int32) (x4 : Int32) (σ : mS) (τ : mL) (R : Int32 × mS × mL), (Mo_testAll_f n 0 x1 x2 x3 x4 σ τ = some R → XM F G B (xZ F G B (mP M none R.2.1 R.2.2) 0 0) 5 M σ τ 0 [(0, .ref (M.1)), (1, .int (x1)), (2, .int (x2))] []) ∧ (Mo_testAll_f n 10 x1 x2 x3 x4 σ τ = some R → XM F G B (xZ F G B (mP M none R.2.1 R.2.2) 0 0) 5 M σ τ 10 [(0, .ref (M.1)), (1, .int (x1)), (2, .int (x2)), (3, .int (x3)), (4, .int (x4))] []) := by
  intro n
  induction n with
  | zero => exact fun _ _ _ _ _ _ _ => ⟨(fun hR => nomatch (show (none : Option _) = some _ from hR)), (fun hR => nomatch (show (none : Option _) = some _ from hR))⟩
  | succ n ih =>
    intro x1 x2 x3 x4 σ τ R
    refine ⟨fun hR => ?_, fun hR => ?_⟩
    · rw [Mo_testAll_e0] at hR
      unfold Mo_testAll_t0 at hR
      refine XM_bipush (v := 12) C dMo_testAll_0 (by decide) ?_
      refine XM_iload_n C dMo_testAll_2 rfl ?_
      refine XM_imul C dMo_testAll_3 ?_
      refine XM_iload_n C dMo_testAll_4 rfl ?_
      refine XM_iadd C dMo_testAll_5 ?_
      refine XM_istore_n (lv' := [(3, .int ((((12 : Int32)) * (x1)) + (x2))), (0, .ref (M.1)), (1, .int (x1)), (2, .int (x2))]) C dMo_testAll_6 (by decide) rfl ?_
      refine XM_iconst (v := 0) C dMo_testAll_7 rfl ?_
      refine XM_istore (lv' := [(4, .int ((0 : Int32))), (3, .int ((((12 : Int32)) * (x1)) + (x2))), (0, .ref (M.1)), (1, .int (x1)), (2, .int (x2))]) C dMo_testAll_8 (by decide) rfl ?_
      refine XM_sub (lv' := [(0, .ref (M.1)), (1, .int (x1)), (2, .int (x2)), (3, .int ((((12 : Int32)) * (x1)) + (x2))), (4, .int ((0 : Int32)))]) [2, 3, 4, 1, 0] rfl ?_
      exact (ih (x1) (x2) ((((12 : Int32)) * (x1)) + (x2)) ((0 : Int32)) _ _ _).2 hR
    · rw [Mo_testAll_e10] at hR
      unfold Mo_testAll_t10 at hR
      refine XM_iload C dMo_testAll_10 rfl ?_
      refine XM_aload_n C dMo_testAll_12 rfl ?_
      refine XM_get (k := 11) (v := .ref (M.2.1 11)) C rfl fwMo_37 dMo_testAll_13 ?_
      refine XM_iload_n C dMo_testAll_16 rfl ?_
      obtain ⟨q1, hR⟩ := o_if hR
      refine XM_iald (k := 11) (n := 36) C rfl (xin_vp q1) dMo_testAll_17 ?_
      refine XM_icmp_ge (tgt := 64) C dMo_testAll_18 (by decide) (fun c2 => ?_) (fun c2 => ?_)
      · rw [if_pos c2] at hR
        have hR := Option.some.inj hR
        subst hR
        exact XM_vret C hr dMo_testAll_64 rfl rfl rfl
      · rw [if_neg c2] at hR
        refine XM_aload_n C dMo_testAll_21 rfl ?_
        refine XM_aload_n C dMo_testAll_22 rfl ?_
        refine XM_get (k := 12) (v := .ref (M.2.1 12)) C rfl fwMo_40 dMo_testAll_23 ?_
        refine XM_iconst (v := 3) C dMo_testAll_26 rfl ?_
        refine XM_iload_n C dMo_testAll_27 rfl ?_
        refine XM_imul C dMo_testAll_28 ?_
        refine XM_iload C dMo_testAll_29 rfl ?_
        refine XM_iadd C dMo_testAll_31 ?_
        obtain ⟨q3, hR⟩ := o_if hR
        refine XM_iald (k := 12) (n := 108) C rfl (xin_vp q3) dMo_testAll_32 ?_
        refine XM_aload_n C dMo_testAll_33 rfl ?_
        refine XM_get (k := 13) (v := .ref (M.2.1 13)) C rfl fwMo_43 dMo_testAll_34 ?_
        refine XM_iconst (v := 3) C dMo_testAll_37 rfl ?_
        refine XM_iload_n C dMo_testAll_38 rfl ?_
        refine XM_imul C dMo_testAll_39 ?_
        refine XM_iload C dMo_testAll_40 rfl ?_
        refine XM_iadd C dMo_testAll_42 ?_
        obtain ⟨q4, hR⟩ := o_if hR
        refine XM_iald (k := 13) (n := 108) C rfl (xin_vp q4) dMo_testAll_43 ?_
        refine XM_aload_n C dMo_testAll_44 rfl ?_
        refine XM_get (k := 14) (v := .ref (M.2.1 14)) C rfl fwMo_46 dMo_testAll_45 ?_
        refine XM_iconst (v := 3) C dMo_testAll_48 rfl ?_
        refine XM_iload_n C dMo_testAll_49 rfl ?_
        refine XM_imul C dMo_testAll_50 ?_
        refine XM_iload C dMo_testAll_51 rfl ?_
        refine XM_iadd C dMo_testAll_53 ?_
        obtain ⟨q5, hR⟩ := o_if hR
        refine XM_iald (k := 14) (n := 108) C rfl (xin_vp q5) dMo_testAll_54 ?_
        obtain ⟨r6, hr6, hR⟩ := o_bind hR
        refine XM_callVv (As := [.int (σ 12 (Int32.toNatClampNeg ((((3 : Int32)) * (x3)) + (x4)))), .int (σ 13 (Int32.toNatClampNeg ((((3 : Int32)) * (x3)) + (x4)))), .int (σ 14 (Int32.toNatClampNeg ((((3 : Int32)) * (x3)) + (x4))))]) (rest := []) C (Mo_tightenBy_c hr6) wMo_179 ⟨by decide, by decide⟩ rfl rfl (Nat.le_of_ble_eq_true rfl) dMo_testAll_55 ?_
        refine XM_iinc (v := x4 + 1) (lv' := [(4, .int (x4 + 1)), (0, .ref (M.1)), (1, .int (x1)), (2, .int (x2)), (3, .int (x3))]) C dMo_testAll_58 rfl rfl (by decide) rfl ?_
        refine XM_goto (tgt := 10) C dMo_testAll_61 (by decide) ?_
        refine XM_sub (lv' := [(0, .ref (M.1)), (1, .int (x1)), (2, .int (x2)), (3, .int (x3)), (4, .int (x4 + 1))]) [1, 2, 3, 4, 0] rfl ?_
        exact (ih (x1) (x2) (x3) (x4 + 1) _ _ _).2 hR
theorem Mo_testAll_c {l : Launch} {G : xG} {B : Nat} {M : xM} {n : Nat} {x1 x2 : Int32} {σ : mS} {τ : mL} {R : Int32 × mS × mL} (hR : Mo_testAll_f n 0 x1 x2 0 0 σ τ = some R) : mCon l yMo_testAll cMo_testAll 5 none 4 90 G B M [.ref M.1, .int x1, .int x2] σ τ none R.2.1 R.2.2 := mCon.of (by decide) (Nat.le_of_ble_eq_true rfl) (fun F e C hr => XM_sub (lv' := [(0, .ref (M.1)), (1, .int (x1)), (2, .int (x2))]) [0, 1, 2] rfl ((Mo_testAll_x C hr n x1 x2 0 0 σ τ R).1 hR))
def Mo_arrive_f (n : Nat) (x1 : Int32) (σ : mS) (τ : mL) : Option (Int32 × mS × mL) := obd (Mo_limitAll_f n 0 0 0 0 σ τ) (fun r1 => (if xin ((4 : Int32)) 25 = true then (if x1 = 0 then bnd (su r1.2.1 39 0 ((0 : Int32))) (fun s4 => obd (Mo_passOn_f n 0 0 s4 r1.2.2) (fun r5 => obd (Mo_limitAll_f n 0 0 0 0 r5.2.1 r5.2.2) (fun r6 => some (0, r6.2.1, r6.2.2)))) else (if (r1.2.1 15 (Int32.toNatClampNeg ((4 : Int32)))) &&& ((1 : Int32)) = (1 : Int32) then bnd (su r1.2.1 39 0 (((((-2) : Int32)) * ((r1.2.1 15 (Int32.toNatClampNeg ((4 : Int32)))) >>> (((1 : Int32)) &&& 31))) + ((0 : Int32)))) (fun s11 => obd (Mo_passOn_f n 0 0 s11 r1.2.2) (fun r12 => obd (Mo_limitAll_f n 0 0 0 0 r12.2.1 r12.2.2) (fun r13 => some (0, r13.2.1, r13.2.2)))) else bnd (su r1.2.1 39 0 (((((-2) : Int32)) * ((r1.2.1 15 (Int32.toNatClampNeg ((4 : Int32)))) >>> (((1 : Int32)) &&& 31))) + ((1 : Int32)))) (fun s8 => obd (Mo_passOn_f n 0 0 s8 r1.2.2) (fun r9 => obd (Mo_limitAll_f n 0 0 0 0 r9.2.1 r9.2.2) (fun r10 => some (0, r10.2.1, r10.2.2)))))) else none))
set_option maxRecDepth 100000 in
set_option maxHeartbeats 8000000 in
theorem Mo_arrive_x {F : xF} {G : xG} {B : Nat} {M : xM} (C : xC F G B cMo_arrive RMo 3 5 113 0 0) (hr : (xFM F).sig.returnType = none) {n : Nat} {x1 : Int32} {σ : mS} {τ : mL} {R : Int32 × mS × mL} (hR : Mo_arrive_f n x1 σ τ = some R) : XM F G B (xZ F G B (mP M none R.2.1 R.2.2) 0 0) 3 M σ τ 0 [(0, .ref (M.1)), (1, .int (x1))] [] := by
  unfold Mo_arrive_f at hR
  refine XM_aload_n C dMo_arrive_0 rfl ?_
  obtain ⟨r1, hr1, hR⟩ := o_bind hR
  refine XM_callVv (As := []) (rest := []) C (Mo_limitAll_c hr1) wMo_183 ⟨by decide, by decide⟩ rfl rfl (Nat.le_of_ble_eq_true rfl) dMo_arrive_1 ?_
  refine XM_aload_n C dMo_arrive_4 rfl ?_
  refine XM_get (k := 15) (v := .ref (M.2.1 15)) C rfl fwMo_49 dMo_arrive_5 ?_
  refine XM_iconst (v := 4) C dMo_arrive_8 rfl ?_
  obtain ⟨q2, hR⟩ := o_if hR
  refine XM_iald (k := 15) (n := 25) C rfl (xin_vp q2) dMo_arrive_9 ?_
  refine XM_istore_n (lv' := [(2, .int (r1.2.1 15 (Int32.toNatClampNeg ((4 : Int32))))), (0, .ref (M.1)), (1, .int (x1))]) C dMo_arrive_10 (by decide) rfl ?_
  refine XM_aload_n C dMo_arrive_11 rfl ?_
  refine XM_iload_n C dMo_arrive_12 rfl ?_
  refine XM_if_eq (tgt := 38) C dMo_arrive_13 (by decide) (fun c3 => ?_) (fun c3 => ?_)
  · rw [if_pos c3] at hR
    refine XM_iconst (v := 0) C dMo_arrive_38 rfl ?_
    refine XM_put (k := 39) C rfl fwMo_186 rfl rfl rfl dMo_arrive_39 ?_
    obtain ⟨s4, es4, hR⟩ := b_bnd hR
    rw [← es4]
    refine XM_aload_n C dMo_arrive_42 rfl ?_
    obtain ⟨r5, hr5, hR⟩ := o_bind hR
    refine XM_callVv (As := []) (rest := []) C (Mo_passOn_c hr5) wMo_189 ⟨by decide, by decide⟩ rfl rfl (Nat.le_of_ble_eq_true rfl) dMo_arrive_43 ?_
    refine XM_aload_n C dMo_arrive_46 rfl ?_
    obtain ⟨r6, hr6, hR⟩ := o_bind hR
    refine XM_callVv (As := []) (rest := []) C (Mo_limitAll_c hr6) wMo_183 ⟨by decide, by decide⟩ rfl rfl (Nat.le_of_ble_eq_true rfl) dMo_arrive_47 ?_
    have hR := Option.some.inj hR
    subst hR
    exact XM_vret C hr dMo_arrive_50 rfl rfl rfl
  · rw [if_neg c3] at hR
    refine XM_bipush (v := (-2)) C dMo_arrive_16 (by decide) ?_
    refine XM_iload_n C dMo_arrive_18 rfl ?_
    refine XM_iconst (v := 1) C dMo_arrive_19 rfl ?_
    refine XM_ishr C dMo_arrive_20 ?_
    refine XM_imul C dMo_arrive_21 ?_
    refine XM_iload_n C dMo_arrive_22 rfl ?_
    refine XM_iconst (v := 1) C dMo_arrive_23 rfl ?_
    refine XM_iand C dMo_arrive_24 ?_
    refine XM_iconst (v := 1) C dMo_arrive_25 rfl ?_
    refine XM_icmp_ne (tgt := 33) C dMo_arrive_26 (by decide) (fun c7 => ?_) (fun c7 => ?_)
    · rw [if_neg c7] at hR
      refine XM_iconst (v := 1) C dMo_arrive_33 rfl ?_
      refine XM_iadd C dMo_arrive_34 ?_
      refine XM_goto (tgt := 39) C dMo_arrive_35 (by decide) ?_
      refine XM_put (k := 39) C rfl fwMo_186 rfl rfl rfl dMo_arrive_39 ?_
      obtain ⟨s8, es8, hR⟩ := b_bnd hR
      rw [← es8]
      refine XM_aload_n C dMo_arrive_42 rfl ?_
      obtain ⟨r9, hr9, hR⟩ := o_bind hR
      refine XM_callVv (As := []) (rest := []) C (Mo_passOn_c hr9) wMo_189 ⟨by decide, by decide⟩ rfl rfl (Nat.le_of_ble_eq_true rfl) dMo_arrive_43 ?_
      refine XM_aload_n C dMo_arrive_46 rfl ?_
      obtain ⟨r10, hr10, hR⟩ := o_bind hR
      refine XM_callVv (As := []) (rest := []) C (Mo_limitAll_c hr10) wMo_183 ⟨by decide, by decide⟩ rfl rfl (Nat.le_of_ble_eq_true rfl) dMo_arrive_47 ?_
      have hR := Option.some.inj hR
      subst hR
      exact XM_vret C hr dMo_arrive_50 rfl rfl rfl
    · rw [if_pos c7] at hR
      refine XM_iconst (v := 0) C dMo_arrive_29 rfl ?_
      refine XM_goto (tgt := 34) C dMo_arrive_30 (by decide) ?_
      refine XM_iadd C dMo_arrive_34 ?_
      refine XM_goto (tgt := 39) C dMo_arrive_35 (by decide) ?_
      refine XM_put (k := 39) C rfl fwMo_186 rfl rfl rfl dMo_arrive_39 ?_
      obtain ⟨s11, es11, hR⟩ := b_bnd hR
      rw [← es11]
      refine XM_aload_n C dMo_arrive_42 rfl ?_
      obtain ⟨r12, hr12, hR⟩ := o_bind hR
      refine XM_callVv (As := []) (rest := []) C (Mo_passOn_c hr12) wMo_189 ⟨by decide, by decide⟩ rfl rfl (Nat.le_of_ble_eq_true rfl) dMo_arrive_43 ?_
      refine XM_aload_n C dMo_arrive_46 rfl ?_
      obtain ⟨r13, hr13, hR⟩ := o_bind hR
      refine XM_callVv (As := []) (rest := []) C (Mo_limitAll_c hr13) wMo_183 ⟨by decide, by decide⟩ rfl rfl (Nat.le_of_ble_eq_true rfl) dMo_arrive_47 ?_
      have hR := Option.some.inj hR
      subst hR
      exact XM_vret C hr dMo_arrive_50 rfl rfl rfl
theorem Mo_arrive_c {l : Launch} {G : xG} {B : Nat} {M : xM} {n : Nat} {x1 : Int32} {σ : mS} {τ : mL} {R : Int32 × mS × mL} (hR : Mo_arrive_f n x1 σ τ = some R) : mCon l yMo_arrive cMo_arrive 3 none 5 113 G B M [.ref M.1, .int x1] σ τ none R.2.1 R.2.2 := mCon.of (by decide) (Nat.le_of_ble_eq_true rfl) (fun F e C hr => XM_sub (lv' := [(0, .ref (M.1)), (1, .int (x1))]) [0, 1] rfl (Mo_arrive_x C hr hR))
def Mo_find_t0 (f : Nat → Int32 → Int32 → Int32 → Int32 → Int32 → mS → mL → Option (Int32 × mS × mL)) (n : Nat) (x1 : Int32) (x2 : Int32) (x3 : Int32) (x4 : Int32) (x5 : Int32) (σ : mS) (τ : mL) : Option (Int32 × mS × mL) := f 2 (x1) (x2) ((0 : Int32)) 0 0 σ τ
def Mo_find_t2 (f : Nat → Int32 → Int32 → Int32 → Int32 → Int32 → mS → mL → Option (Int32 × mS × mL)) (n : Nat) (x1 : Int32) (x2 : Int32) (x3 : Int32) (x4 : Int32) (x5 : Int32) (σ : mS) (τ : mL) : Option (Int32 × mS × mL) := (if xin ((((6 : Int32)) * (x1)) + (x2)) 18 = true then (if σ 4 (Int32.toNatClampNeg ((((6 : Int32)) * (x1)) + (x2))) ≤ x3 then some (0, σ, τ) else (if xin ((((2 : Int32)) * ((((6 : Int32)) * (x1)) + (x2))) + (x3)) 36 = true then (if xin ((((2 : Int32)) * ((((6 : Int32)) * (x1)) + (x2))) + (x3)) 36 = true then (if xin ((((2 : Int32)) * ((((6 : Int32)) * (x1)) + (x2))) + (x3)) 36 = true then (if xin (σ 5 (Int32.toNatClampNeg ((((2 : Int32)) * ((((6 : Int32)) * (x1)) + (x2))) + (x3)))) 4 = true then (if (σ 6 (Int32.toNatClampNeg ((((2 : Int32)) * ((((6 : Int32)) * (x1)) + (x2))) + (x3)))) >>> (((1 : Int32)) &&& 31) ≤ σ 19 (Int32.toNatClampNeg (σ 5 (Int32.toNatClampNeg ((((2 : Int32)) * ((((6 : Int32)) * (x1)) + (x2))) + (x3))))) then (if xin ((((2 : Int32)) * ((((6 : Int32)) * (x1)) + (x2))) + (x3)) 36 = true then (if xin (σ 5 (Int32.toNatClampNeg ((((2 : Int32)) * ((((6 : Int32)) * (x1)) + (x2))) + (x3)))) 4 = true then (if xin (σ 5 (Int32.toNatClampNeg ((((2 : Int32)) * ((((6 : Int32)) * (x1)) + (x2))) + (x3)))) 4 = true then bnd (su σ 19 (Int32.toNatClampNeg (σ 5 (Int32.toNatClampNeg ((((2 : Int32)) * ((((6 : Int32)) * (x1)) + (x2))) + (x3))))) (σ 19 (Int32.toNatClampNeg (σ 5 (Int32.toNatClampNeg ((((2 : Int32)) * ((((6 : Int32)) * (x1)) + (x2))) + (x3))))))) (fun s11 => f 2 (x1) (x2) (x3 + 1) 0 0 s11 τ) else none) else none) else none) else (if xin (σ 5 (Int32.toNatClampNeg ((((2 : Int32)) * ((((6 : Int32)) * (x1)) + (x2))) + (x3)))) 4 = true then bnd (su σ 19 (Int32.toNatClampNeg (σ 5 (Int32.toNatClampNeg ((((2 : Int32)) * ((((6 : Int32)) * (x1)) + (x2))) + (x3))))) ((σ 6 (Int32.toNatClampNeg ((((2 : Int32)) * ((((6 : Int32)) * (x1)) + (x2))) + (x3)))) >>> (((1 : Int32)) &&& 31))) (fun s13 => f 2 (x1) (x2) (x3 + 1) 0 0 s13 τ) else none)) else none) else none) else none) else none)) else none)
def Mo_find_f : Nat → Nat → Int32 → Int32 → Int32 → Int32 → Int32 → mS → mL → Option (Int32 × mS × mL)
  | 0 => fun _ _ _ _ _ _ _ _ => none
  | n + 1 => fun p x1 x2 x3 x4 x5 σ τ => if p = 0 then Mo_find_t0 (Mo_find_f n) n x1 x2 x3 x4 x5 σ τ else if p = 2 then Mo_find_t2 (Mo_find_f n) n x1 x2 x3 x4 x5 σ τ else none
theorem Mo_find_e0 (n : Nat) (x1 : Int32) (x2 : Int32) (x3 : Int32) (x4 : Int32) (x5 : Int32) (σ : mS) (τ : mL) : Mo_find_f (n + 1) 0 x1 x2 x3 x4 x5 σ τ = Mo_find_t0 (Mo_find_f n) n x1 x2 x3 x4 x5 σ τ := by
  show (if 0 = 0 then Mo_find_t0 (Mo_find_f n) n x1 x2 x3 x4 x5 σ τ else if 0 = 2 then Mo_find_t2 (Mo_find_f n) n x1 x2 x3 x4 x5 σ τ else none) = _
  rw [if_pos rfl]
theorem Mo_find_e2 (n : Nat) (x1 : Int32) (x2 : Int32) (x3 : Int32) (x4 : Int32) (x5 : Int32) (σ : mS) (τ : mL) : Mo_find_f (n + 1) 2 x1 x2 x3 x4 x5 σ τ = Mo_find_t2 (Mo_find_f n) n x1 x2 x3 x4 x5 σ τ := by
  show (if 2 = 0 then Mo_find_t0 (Mo_find_f n) n x1 x2 x3 x4 x5 σ τ else if 2 = 2 then Mo_find_t2 (Mo_find_f n) n x1 x2 x3 x4 x5 σ τ else none) = _
  rw [if_neg (by decide), if_pos rfl]
set_option maxRecDepth 100000 in
set_option maxHeartbeats 8000000 in
theorem Mo_find_x {F : xF} {G : xG} {B : Nat} {M : xM} (C : xC F G B cMo_find RMo 6 0 0 0 0) (hr : (xFM F).sig.returnType = none) : ∀ (n : Nat) (x1 : Int32) (x2 : Int32) (x3 : Int32) (x4 : Int32) (x5 : Int32) (σ : mS) (τ : mL) (R : Int32 × mS × mL), (Mo_find_f n 0 x1 x2 x3 x4 x5 σ τ = some R → XM F G B (xZ F G B (mP M none R.2.1 R.2.2) 0 0) 6 M σ τ 0 [(0, .ref (M.1)), (1, .int (x1)), (2, .int (x2))] []) ∧ (Mo_find_f n 2 x1 x2 x3 x4 x5 σ τ = some R → XM F G B (xZ F G B (mP M none R.2.1 R.2.2) 0 0) 6 M σ τ 2 [(0, .ref (M.1)), (1, .int (x1)), (2, .int (x2)), (3, .int (x3))] []) := by
  intro n
  induction n with
  | zero => exact fun _ _ _ _ _ _ _ _ => ⟨(fun hR => nomatch (show (none : Option _) = some _ from hR)), (fun hR => nomatch (show (none : Option _) = some _ from hR))⟩
  | succ n ih =>
    intro x1 x2 x3 x4 x5 σ τ R
    refine ⟨fun hR => ?_, fun hR => ?_⟩
    · rw [Mo_find_e0] at hR
      unfold Mo_find_t0 at hR
      refine XM_iconst (v := 0) C dMo_find_0 rfl ?_
      refine XM_istore_n (lv' := [(3, .int ((0 : Int32))), (0, .ref (M.1)), (1, .int (x1)), (2, .int (x2))]) C dMo_find_1 (by decide) rfl ?_
      refine XM_sub (lv' := [(0, .ref (M.1)), (1, .int (x1)), (2, .int (x2)), (3, .int ((0 : Int32)))]) [1, 2, 3, 0] rfl ?_
      exact (ih (x1) (x2) ((0 : Int32)) 0 0 _ _ _).2 hR
    · rw [Mo_find_e2] at hR
      unfold Mo_find_t2 at hR
      refine XM_iload_n C dMo_find_2 rfl ?_
      refine XM_aload_n C dMo_find_3 rfl ?_
      refine XM_get (k := 4) (v := .ref (M.2.1 4)) C rfl fwMo_16 dMo_find_4 ?_
      refine XM_bipush (v := 6) C dMo_find_7 (by decide) ?_
      refine XM_iload_n C dMo_find_9 rfl ?_
      refine XM_imul C dMo_find_10 ?_
      refine XM_iload_n C dMo_find_11 rfl ?_
      refine XM_iadd C dMo_find_12 ?_
      obtain ⟨q1, hR⟩ := o_if hR
      refine XM_iald (k := 4) (n := 18) C rfl (xin_vp q1) dMo_find_13 ?_
      refine XM_icmp_ge (tgt := 92) C dMo_find_14 (by decide) (fun c2 => ?_) (fun c2 => ?_)
      · rw [if_pos c2] at hR
        have hR := Option.some.inj hR
        subst hR
        exact XM_vret C hr dMo_find_92 rfl rfl rfl
      · rw [if_neg c2] at hR
        refine XM_iconst (v := 2) C dMo_find_17 rfl ?_
        refine XM_bipush (v := 6) C dMo_find_18 (by decide) ?_
        refine XM_iload_n C dMo_find_20 rfl ?_
        refine XM_imul C dMo_find_21 ?_
        refine XM_iload_n C dMo_find_22 rfl ?_
        refine XM_iadd C dMo_find_23 ?_
        refine XM_imul C dMo_find_24 ?_
        refine XM_iload_n C dMo_find_25 rfl ?_
        refine XM_iadd C dMo_find_26 ?_
        refine XM_istore (lv' := [(4, .int ((((2 : Int32)) * ((((6 : Int32)) * (x1)) + (x2))) + (x3))), (0, .ref (M.1)), (1, .int (x1)), (2, .int (x2)), (3, .int (x3))]) C dMo_find_27 (by decide) rfl ?_
        refine XM_aload_n C dMo_find_29 rfl ?_
        refine XM_get (k := 6) (v := .ref (M.2.1 6)) C rfl fwMo_22 dMo_find_30 ?_
        refine XM_iload C dMo_find_33 rfl ?_
        obtain ⟨q3, hR⟩ := o_if hR
        refine XM_iald (k := 6) (n := 36) C rfl (xin_vp q3) dMo_find_35 ?_
        refine XM_iconst (v := 1) C dMo_find_36 rfl ?_
        refine XM_ishr C dMo_find_37 ?_
        refine XM_istore (lv' := [(5, .int ((σ 6 (Int32.toNatClampNeg ((((2 : Int32)) * ((((6 : Int32)) * (x1)) + (x2))) + (x3)))) >>> (((1 : Int32)) &&& 31))), (4, .int ((((2 : Int32)) * ((((6 : Int32)) * (x1)) + (x2))) + (x3))), (0, .ref (M.1)), (1, .int (x1)), (2, .int (x2)), (3, .int (x3))]) C dMo_find_38 (by decide) rfl ?_
        refine XM_aload_n C dMo_find_40 rfl ?_
        refine XM_get (k := 19) (v := .ref (M.2.1 19)) C rfl fwMo_55 dMo_find_41 ?_
        refine XM_aload_n C dMo_find_44 rfl ?_
        refine XM_get (k := 5) (v := .ref (M.2.1 5)) C rfl fwMo_19 dMo_find_45 ?_
        refine XM_iload C dMo_find_48 rfl ?_
        obtain ⟨q4, hR⟩ := o_if hR
        refine XM_iald (k := 5) (n := 36) C rfl (xin_vp q4) dMo_find_50 ?_
        refine XM_iload C dMo_find_51 rfl ?_
        refine XM_aload_n C dMo_find_53 rfl ?_
        refine XM_get (k := 19) (v := .ref (M.2.1 19)) C rfl fwMo_55 dMo_find_54 ?_
        refine XM_aload_n C dMo_find_57 rfl ?_
        refine XM_get (k := 5) (v := .ref (M.2.1 5)) C rfl fwMo_19 dMo_find_58 ?_
        refine XM_iload C dMo_find_61 rfl ?_
        obtain ⟨q5, hR⟩ := o_if hR
        refine XM_iald (k := 5) (n := 36) C rfl (xin_vp q5) dMo_find_63 ?_
        obtain ⟨q6, hR⟩ := o_if hR
        refine XM_iald (k := 19) (n := 4) C rfl (xin_vp q6) dMo_find_64 ?_
        refine XM_icmp_le (tgt := 73) C dMo_find_65 (by decide) (fun c7 => ?_) (fun c7 => ?_)
        · rw [if_pos c7] at hR
          refine XM_aload_n C dMo_find_73 rfl ?_
          refine XM_get (k := 19) (v := .ref (M.2.1 19)) C rfl fwMo_55 dMo_find_74 ?_
          refine XM_aload_n C dMo_find_77 rfl ?_
          refine XM_get (k := 5) (v := .ref (M.2.1 5)) C rfl fwMo_19 dMo_find_78 ?_
          refine XM_iload C dMo_find_81 rfl ?_
          obtain ⟨q8, hR⟩ := o_if hR
          refine XM_iald (k := 5) (n := 36) C rfl (xin_vp q8) dMo_find_83 ?_
          obtain ⟨q9, hR⟩ := o_if hR
          refine XM_iald (k := 19) (n := 4) C rfl (xin_vp q9) dMo_find_84 ?_
          obtain ⟨q10, hR⟩ := o_if hR
          refine XM_iast (k := 19) (n := 4) C rfl (xin_vp q10) dMo_find_85 ?_
          obtain ⟨s11, es11, hR⟩ := b_bnd hR
          rw [← es11]
          refine XM_iinc (v := x3 + 1) (lv' := [(3, .int (x3 + 1)), (5, .int ((σ 6 (Int32.toNatClampNeg ((((2 : Int32)) * ((((6 : Int32)) * (x1)) + (x2))) + (x3)))) >>> (((1 : Int32)) &&& 31))), (4, .int ((((2 : Int32)) * ((((6 : Int32)) * (x1)) + (x2))) + (x3))), (0, .ref (M.1)), (1, .int (x1)), (2, .int (x2))]) C dMo_find_86 rfl rfl (by decide) rfl ?_
          refine XM_goto (tgt := 2) C dMo_find_89 (by decide) ?_
          refine XM_sub (lv' := [(0, .ref (M.1)), (1, .int (x1)), (2, .int (x2)), (3, .int (x3 + 1))]) [3, 4, 5, 0] rfl ?_
          exact (ih (x1) (x2) (x3 + 1) 0 0 _ _ _).2 hR
        · rw [if_neg c7] at hR
          refine XM_iload C dMo_find_68 rfl ?_
          refine XM_goto (tgt := 85) C dMo_find_70 (by decide) ?_
          obtain ⟨q12, hR⟩ := o_if hR
          refine XM_iast (k := 19) (n := 4) C rfl (xin_vp q12) dMo_find_85 ?_
          obtain ⟨s13, es13, hR⟩ := b_bnd hR
          rw [← es13]
          refine XM_iinc (v := x3 + 1) (lv' := [(3, .int (x3 + 1)), (5, .int ((σ 6 (Int32.toNatClampNeg ((((2 : Int32)) * ((((6 : Int32)) * (x1)) + (x2))) + (x3)))) >>> (((1 : Int32)) &&& 31))), (4, .int ((((2 : Int32)) * ((((6 : Int32)) * (x1)) + (x2))) + (x3))), (0, .ref (M.1)), (1, .int (x1)), (2, .int (x2))]) C dMo_find_86 rfl rfl (by decide) rfl ?_
          refine XM_goto (tgt := 2) C dMo_find_89 (by decide) ?_
          refine XM_sub (lv' := [(0, .ref (M.1)), (1, .int (x1)), (2, .int (x2)), (3, .int (x3 + 1))]) [3, 4, 5, 0] rfl ?_
          exact (ih (x1) (x2) (x3 + 1) 0 0 _ _ _).2 hR
theorem Mo_find_c {l : Launch} {G : xG} {B : Nat} {M : xM} {n : Nat} {x1 x2 : Int32} {σ : mS} {τ : mL} {R : Int32 × mS × mL} (hR : Mo_find_f n 0 x1 x2 0 0 0 σ τ = some R) : mCon l yMo_find cMo_find 6 none 0 0 G B M [.ref M.1, .int x1, .int x2] σ τ none R.2.1 R.2.2 := mCon.of (by decide) (Nat.le_of_ble_eq_true rfl) (fun F e C hr => XM_sub (lv' := [(0, .ref (M.1)), (1, .int (x1)), (2, .int (x2))]) [0, 1, 2] rfl ((Mo_find_x C hr n x1 x2 0 0 0 σ τ R).1 hR))
