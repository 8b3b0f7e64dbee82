def Mo_isSeen_t0 (f : Nat → Int32 → Int32 → Int32 → mS → mL → Option (Int32 × mS × mL)) (n : Nat) (x1 : Int32) (x2 : Int32) (x3 : Int32) (σ : mS) (τ : mL) : Option (Int32 × mS × mL) := f 2 ((0 : Int32)) 0 0 σ τ
def Mo_isSeen_t2 (f : Nat → Int32 → Int32 → Int32 → mS → mL → Option (Int32 × mS × mL)) (n : Nat) (x1 : Int32) (x2 : Int32) (x3 : Int32) (σ : mS) (τ : mL) : Option (Int32 × mS × mL) := (if σ 22 0 ≤ x1 then some ((0 : Int32), σ, τ) else f 14 (x1) ((1 : Int32)) ((0 : Int32)) σ τ)
def Mo_isSeen_t14 (f : Nat → Int32 → Int32 → Int32 → mS → mL → Option (Int32 × mS × mL)) (n : Nat) (x1 : Int32) (x2 : Int32) (x3 : Int32) (σ : mS) (τ : mL) : Option (Int32 × mS × mL) := (if σ 1 0 ≤ x3 then f 59 (x1) (x2) ((0 : Int32)) σ τ else (if x2 = 0 then f 14 (x1) ((0 : Int32)) (x3 + 1) σ τ else (if xin ((((3 : Int32)) * (x1)) + (x3)) 600 = true then (if xin (x3) 3 = true then (if σ 24 (Int32.toNatClampNeg ((((3 : Int32)) * (x1)) + (x3))) = σ 38 (Int32.toNatClampNeg (x3)) then f 14 (x1) ((1 : Int32)) (x3 + 1) σ τ else f 14 (x1) ((0 : Int32)) (x3 + 1) σ τ) else none) else none)))
def Mo_isSeen_t59 (f : Nat → Int32 → Int32 → Int32 → mS → mL → Option (Int32 × mS × mL)) (n : Nat) (x1 : Int32) (x2 : Int32) (x3 : Int32) (σ : mS) (τ : mL) : Option (Int32 × mS × mL) := (if (20 : Int32) ≤ x3 then (if x2 = 0 then f 2 (x1 + 1) 0 0 σ τ else some ((1 : Int32), σ, τ)) else (if x2 = 0 then (if x2 = 0 then f 2 (x1 + 1) 0 0 σ τ else some ((1 : Int32), σ, τ)) else (if (x3) - (x3) / ((5 : Int32)) * ((5 : Int32)) = (4 : Int32) then f 59 (x1) ((1 : Int32)) (x3 + 1) σ τ else (if xin (x3) 25 = true then (if xin ((((25 : Int32)) * (x1)) + (x3)) 5000 = true then (if σ 25 (Int32.toNatClampNeg ((((25 : Int32)) * (x1)) + (x3))) < σ 15 (Int32.toNatClampNeg (x3)) then f 59 (x1) ((0 : Int32)) (x3 + 1) σ τ else f 59 (x1) ((1 : Int32)) (x3 + 1) σ τ) else none) else none))))
def Mo_isSeen_f : Nat → Nat → Int32 → Int32 → Int32 → mS → mL → Option (Int32 × mS × mL)
  | 0 => fun _ _ _ _ _ _ => none
  | n + 1 => fun p x1 x2 x3 σ τ => if p = 0 then Mo_isSeen_t0 (Mo_isSeen_f n) n x1 x2 x3 σ τ else if p = 2 then Mo_isSeen_t2 (Mo_isSeen_f n) n x1 x2 x3 σ τ else if p = 14 then Mo_isSeen_t14 (Mo_isSeen_f n) n x1 x2 x3 σ τ else if p = 59 then Mo_isSeen_t59 (Mo_isSeen_f n) n x1 x2 x3 σ τ else none
theorem Mo_isSeen_e0 (n : Nat) (x1 : Int32) (x2 : Int32) (x3 : Int32) (σ : mS) (τ : mL) : Mo_isSeen_f (n + 1) 0 x1 x2 x3 σ τ = Mo_isSeen_t0 (Mo_isSeen_f n) n x1 x2 x3 σ τ := by
  show (if 0 = 0 then Mo_isSeen_t0 (Mo_isSeen_f n) n x1 x2 x3 σ τ else if 0 = 2 then Mo_isSeen_t2 (Mo_isSeen_f n) n x1 x2 x3 σ τ else if 0 = 14 then Mo_isSeen_t14 (Mo_isSeen_f n) n x1 x2 x3 σ τ else if 0 = 59 then Mo_isSeen_t59 (Mo_isSeen_f n) n x1 x2 x3 σ τ else none) = _
  rw [if_pos rfl]
theorem Mo_isSeen_e2 (n : Nat) (x1 : Int32) (x2 : Int32) (x3 : Int32) (σ : mS) (τ : mL) : Mo_isSeen_f (n + 1) 2 x1 x2 x3 σ τ = Mo_isSeen_t2 (Mo_isSeen_f n) n x1 x2 x3 σ τ := by
  show (if 2 = 0 then Mo_isSeen_t0 (Mo_isSeen_f n) n x1 x2 x3 σ τ else if 2 = 2 then Mo_isSeen_t2 (Mo_isSeen_f n) n x1 x2 x3 σ τ else if 2 = 14 then Mo_isSeen_t14 (Mo_isSeen_f n) n x1 x2 x3 σ τ else if 2 = 59 then Mo_isSeen_t59 (Mo_isSeen_f n) n x1 x2 x3 σ τ else none) = _
  rw [if_neg (by decide), if_pos rfl]
theorem Mo_isSeen_e14 (n : Nat) (x1 : Int32) (x2 : Int32) (x3 : Int32) (σ : mS) (τ : mL) : Mo_isSeen_f (n + 1) 14 x1 x2 x3 σ τ = Mo_isSeen_t14 (Mo_isSeen_f n) n x1 x2 x3 σ τ := by
  show (if 14 = 0 then Mo_isSeen_t0 (Mo_isSeen_f n) n x1 x2 x3 σ τ else if 14 = 2 then Mo_isSeen_t2 (Mo_isSeen_f n) n x1 x2 x3 σ τ else if 14 = 14 then Mo_isSeen_t14 (Mo_isSeen_f n) n x1 x2 x3 σ τ else if 14 = 59 then Mo_isSeen_t59 (Mo_isSeen_f n) n x1 x2 x3 σ τ else none) = _
  rw [if_neg (by decide), if_neg (by decide), if_pos rfl]
theorem Mo_isSeen_e59 (n : Nat) (x1 : Int32) (x2 : Int32) (x3 : Int32) (σ : mS) (τ : mL) : Mo_isSeen_f (n + 1) 59 x1 x2 x3 σ τ = Mo_isSeen_t59 (Mo_isSeen_f n) n x1 x2 x3 σ τ := by
  show (if 59 = 0 then Mo_isSeen_t0 (Mo_isSeen_f n) n x1 x2 x3 σ τ else if 59 = 2 then Mo_isSeen_t2 (Mo_isSeen_f n) n x1 x2 x3 σ τ else if 59 = 14 then Mo_isSeen_t14 (Mo_isSeen_f n) n x1 x2 x3 σ τ else if 59 = 59 then Mo_isSeen_t59 (Mo_isSeen_f n) n x1 x2 x3 σ τ else none) = _
  rw [if_neg (by decide), if_neg (by decide), if_neg (by decide), if_pos rfl]
set_option maxRecDepth 100000 in
set_option maxHeartbeats 8000000 in
theorem Mo_isSeen_x {F : xF} {G : xG} {B : Nat} {M : xM} (C : xC F G B cMo_isSeen RMo 4 0 0 0 0) (hr : (xFM F).sig.returnType = (some .boolean)) : ∀ (n : Nat) (x1 : Int32) (x2 : Int32) (x3 : Int32) (σ : mS) (τ : mL) (R : Int32 × mS × mL), (Mo_isSeen_f n 0 x1 x2 x3 σ τ = some R → XM F G B (xZ F G B (mP M (some (.int R.1)) R.2.1 R.2.2) 0 0) 4 M σ τ 0 [(0, .ref (M.1))] []) ∧ (Mo_isSeen_f n 2 x1 x2 x3 σ τ = some R → XM F G B (xZ F G B (mP M (some (.int R.1)) R.2.1 R.2.2) 0 0) 4 M σ τ 2 [(0, .ref (M.1)), (1, .int (x1))] []) ∧ (Mo_isSeen_f n 14 x1 x2 x3 σ τ = some R → XM F G B (xZ F G B (mP M (some (.int R.1)) R.2.1 R.2.2) 0 0) 4 M σ τ 14 [(0, .ref (M.1)), (1, .int (x1)), (2, .int (x2)), (3, .int (x3))] []) ∧ (Mo_isSeen_f n 59 x1 x2 x3 σ τ = some R → XM F G B (xZ F G B (mP M (some (.int R.1)) R.2.1 R.2.2) 0 0) 4 M σ τ 59 [(0, .ref (M.1)), (1, .int (x1)), (2, .int (x2)), (3, .int (x3))] []) := by
  intro n
  induction n with
  | zero => exact fun _ _ _ _ _ _ => ⟨(fun hR => nomatch (show (none : Option _) = some _ from hR)), (fun hR => nomatch (show (none : Option _) = some _ from hR)), (fun hR => nomatch (show (none : Option _) = some _ from hR)), (fun hR => nomatch (show (none : Option _) = some _ from hR))⟩
  | succ n ih =>
    intro x1 x2 x3 σ τ R
    refine ⟨fun hR => ?_, fun hR => ?_, fun hR => ?_, fun hR => ?_⟩
    · rw [Mo_isSeen_e0] at hR
      unfold Mo_isSeen_t0 at hR
      refine XM_iconst (v := 0) C dMo_isSeen_0 rfl ?_
      refine XM_istore_n (lv' := [(1, .int ((0 : Int32))), (0, .ref (M.1))]) C dMo_isSeen_1 (by decide) rfl ?_
      refine XM_sub (lv' := [(0, .ref (M.1)), (1, .int ((0 : Int32)))]) [1, 0] rfl ?_
      exact (ih ((0 : Int32)) 0 0 _ _ _).2.1 hR
    · rw [Mo_isSeen_e2] at hR
      unfold Mo_isSeen_t2 at hR
      refine XM_iload_n C dMo_isSeen_2 rfl ?_
      refine XM_aload_n C dMo_isSeen_3 rfl ?_
      refine XM_get (k := 22) (v := .int (σ 22 0)) C rfl fwMo_199 dMo_isSeen_4 ?_
      refine XM_icmp_ge (tgt := 120) C dMo_isSeen_7 (by decide) (fun c1 => ?_) (fun c1 => ?_)
      · rw [if_pos c1] at hR
        refine XM_iconst (v := 0) C dMo_isSeen_120 rfl ?_
        have hR := Option.some.inj hR
        subst hR
        exact XM_zret C hr rfl dMo_isSeen_121 rfl rfl rfl
      · rw [if_neg c1] at hR
        refine XM_iconst (v := 1) C dMo_isSeen_10 rfl ?_
        refine XM_istore_n (lv' := [(2, .int ((1 : Int32))), (0, .ref (M.1)), (1, .int (x1))]) C dMo_isSeen_11 (by decide) rfl ?_
        refine XM_iconst (v := 0) C dMo_isSeen_12 rfl ?_
        refine XM_istore_n (lv' := [(3, .int ((0 : Int32))), (2, .int ((1 : Int32))), (0, .ref (M.1)), (1, .int (x1))]) C dMo_isSeen_13 (by decide) rfl ?_
        refine XM_sub (lv' := [(0, .ref (M.1)), (1, .int (x1)), (2, .int ((1 : Int32))), (3, .int ((0 : Int32)))]) [2, 3, 1, 0] rfl ?_
        exact (ih (x1) ((1 : Int32)) ((0 : Int32)) _ _ _).2.2.1 hR
    · rw [Mo_isSeen_e14] at hR
      unfold Mo_isSeen_t14 at hR
      refine XM_iload_n C dMo_isSeen_14 rfl ?_
      refine XM_aload_n C dMo_isSeen_15 rfl ?_
      refine XM_get (k := 1) (v := .int (σ 1 0)) C rfl fwMo_128 dMo_isSeen_16 ?_
      refine XM_icmp_ge (tgt := 57) C dMo_isSeen_19 (by decide) (fun c2 => ?_) (fun c2 => ?_)
      · rw [if_pos c2] at hR
        refine XM_iconst (v := 0) C dMo_isSeen_57 rfl ?_
        refine XM_istore_n (lv' := [(3, .int ((0 : Int32))), (0, .ref (M.1)), (1, .int (x1)), (2, .int (x2))]) C dMo_isSeen_58 (by decide) rfl ?_
        refine XM_sub (lv' := [(0, .ref (M.1)), (1, .int (x1)), (2, .int (x2)), (3, .int ((0 : Int32)))]) [1, 2, 3, 0] rfl ?_
        exact (ih (x1) (x2) ((0 : Int32)) _ _ _).2.2.2 hR
      · rw [if_neg c2] at hR
        refine XM_iload_n C dMo_isSeen_22 rfl ?_
        refine XM_if_eq (tgt := 49) C dMo_isSeen_23 (by decide) (fun c3 => ?_) (fun c3 => ?_)
        · rw [if_pos c3] at hR
          refine XM_iconst (v := 0) C dMo_isSeen_49 rfl ?_
          refine XM_istore_n (lv' := [(2, .int ((0 : Int32))), (0, .ref (M.1)), (1, .int (x1)), (3, .int (x3))]) C dMo_isSeen_50 (by decide) rfl ?_
          refine XM_iinc (v := x3 + 1) (lv' := [(3, .int (x3 + 1)), (2, .int ((0 : Int32))), (0, .ref (M.1)), (1, .int (x1))]) C dMo_isSeen_51 rfl rfl (by decide) rfl ?_
          refine XM_goto (tgt := 14) C dMo_isSeen_54 (by decide) ?_
          refine XM_sub (lv' := [(0, .ref (M.1)), (1, .int (x1)), (2, .int ((0 : Int32))), (3, .int (x3 + 1))]) [2, 3, 1, 0] rfl ?_
          exact (ih (x1) ((0 : Int32)) (x3 + 1) _ _ _).2.2.1 hR
        · rw [if_neg c3] at hR
          refine XM_aload_n C dMo_isSeen_26 rfl ?_
          refine XM_get (k := 24) (v := .ref (M.2.1 24)) C rfl fwMo_58 dMo_isSeen_27 ?_
          refine XM_iconst (v := 3) C dMo_isSeen_30 rfl ?_
          refine XM_iload_n C dMo_isSeen_31 rfl ?_
          refine XM_imul C dMo_isSeen_32 ?_
          refine XM_iload_n C dMo_isSeen_33 rfl ?_
          refine XM_iadd C dMo_isSeen_34 ?_
          obtain ⟨q4, hR⟩ := o_if hR
          refine XM_iald (k := 24) (n := 600) C rfl (xin_vp q4) dMo_isSeen_35 ?_
          refine XM_aload_n C dMo_isSeen_36 rfl ?_
          refine XM_get (k := 38) (v := .ref (M.2.1 38)) C rfl fwMo_89 dMo_isSeen_37 ?_
          refine XM_iload_n C dMo_isSeen_40 rfl ?_
          obtain ⟨q5, hR⟩ := o_if hR
          refine XM_iald (k := 38) (n := 3) C rfl (xin_vp q5) dMo_isSeen_41 ?_
          refine XM_icmp_ne (tgt := 49) C dMo_isSeen_42 (by decide) (fun c6 => ?_) (fun c6 => ?_)
          · rw [if_neg c6] at hR
            refine XM_iconst (v := 0) C dMo_isSeen_49 rfl ?_
            refine XM_istore_n (lv' := [(2, .int ((0 : Int32))), (0, .ref (M.1)), (1, .int (x1)), (3, .int (x3))]) C dMo_isSeen_50 (by decide) rfl ?_
            refine XM_iinc (v := x3 + 1) (lv' := [(3, .int (x3 + 1)), (2, .int ((0 : Int32))), (0, .ref (M.1)), (1, .int (x1))]) C dMo_isSeen_51 rfl rfl (by decide) rfl ?_
            refine XM_goto (tgt := 14) C dMo_isSeen_54 (by decide) ?_
            refine XM_sub (lv' := [(0, .ref (M.1)), (1, .int (x1)), (2, .int ((0 : Int32))), (3, .int (x3 + 1))]) [2, 3, 1, 0] rfl ?_
            exact (ih (x1) ((0 : Int32)) (x3 + 1) _ _ _).2.2.1 hR
          · rw [if_pos c6] at hR
            refine XM_iconst (v := 1) C dMo_isSeen_45 rfl ?_
            refine XM_goto (tgt := 50) C dMo_isSeen_46 (by decide) ?_
            refine XM_istore_n (lv' := [(2, .int ((1 : Int32))), (0, .ref (M.1)), (1, .int (x1)), (3, .int (x3))]) C dMo_isSeen_50 (by decide) rfl ?_
            refine XM_iinc (v := x3 + 1) (lv' := [(3, .int (x3 + 1)), (2, .int ((1 : Int32))), (0, .ref (M.1)), (1, .int (x1))]) C dMo_isSeen_51 rfl rfl (by decide) rfl ?_
            refine XM_goto (tgt := 14) C dMo_isSeen_54 (by decide) ?_
            refine XM_sub (lv' := [(0, .ref (M.1)), (1, .int (x1)), (2, .int ((1 : Int32))), (3, .int (x3 + 1))]) [2, 3, 1, 0] rfl ?_
            exact (ih (x1) ((1 : Int32)) (x3 + 1) _ _ _).2.2.1 hR
    · rw [Mo_isSeen_e59] at hR
      unfold Mo_isSeen_t59 at hR
      refine XM_iload_n C dMo_isSeen_59 rfl ?_
      refine XM_bipush (v := 20) C dMo_isSeen_60 (by decide) ?_
      refine XM_icmp_ge (tgt := 108) C dMo_isSeen_62 (by decide) (fun c7 => ?_) (fun c7 => ?_)
      · rw [if_pos c7] at hR
        refine XM_iload_n C dMo_isSeen_108 rfl ?_
        refine XM_if_eq (tgt := 114) C dMo_isSeen_109 (by decide) (fun c8 => ?_) (fun c8 => ?_)
        · rw [if_pos c8] at hR
          refine XM_iinc (v := x1 + 1) (lv' := [(1, .int (x1 + 1)), (0, .ref (M.1)), (2, .int (x2)), (3, .int (x3))]) C dMo_isSeen_114 rfl rfl (by decide) rfl ?_
          refine XM_goto (tgt := 2) C dMo_isSeen_117 (by decide) ?_
          refine XM_sub (lv' := [(0, .ref (M.1)), (1, .int (x1 + 1))]) [1, 0] rfl ?_
          exact (ih (x1 + 1) 0 0 _ _ _).2.1 hR
        · rw [if_neg c8] at hR
          refine XM_iconst (v := 1) C dMo_isSeen_112 rfl ?_
          have hR := Option.some.inj hR
          subst hR
          exact XM_zret C hr rfl dMo_isSeen_113 rfl rfl rfl
      · rw [if_neg c7] at hR
        refine XM_iload_n C dMo_isSeen_65 rfl ?_
        refine XM_if_eq (tgt := 108) C dMo_isSeen_66 (by decide) (fun c9 => ?_) (fun c9 => ?_)
        · rw [if_pos c9] at hR
          refine XM_iload_n C dMo_isSeen_108 rfl ?_
          refine XM_if_eq (tgt := 114) C dMo_isSeen_109 (by decide) (fun c10 => ?_) (fun c10 => ?_)
          · rw [if_pos c10] at hR
            refine XM_iinc (v := x1 + 1) (lv' := [(1, .int (x1 + 1)), (0, .ref (M.1)), (2, .int (x2)), (3, .int (x3))]) C dMo_isSeen_114 rfl rfl (by decide) rfl ?_
            refine XM_goto (tgt := 2) C dMo_isSeen_117 (by decide) ?_
            refine XM_sub (lv' := [(0, .ref (M.1)), (1, .int (x1 + 1))]) [1, 0] rfl ?_
            exact (ih (x1 + 1) 0 0 _ _ _).2.1 hR
          · rw [if_neg c10] at hR
            refine XM_iconst (v := 1) C dMo_isSeen_112 rfl ?_
            have hR := Option.some.inj hR
            subst hR
            exact XM_zret C hr rfl dMo_isSeen_113 rfl rfl rfl
        · rw [if_neg c9] at hR
          refine XM_iload_n C dMo_isSeen_69 rfl ?_
          refine XM_iconst (v := 5) C dMo_isSeen_70 rfl ?_
          refine XM_irem C dMo_isSeen_71 (by decide) ?_
          refine XM_iconst (v := 4) C dMo_isSeen_72 rfl ?_
          refine XM_icmp_eq (tgt := 96) C dMo_isSeen_73 (by decide) (fun c11 => ?_) (fun c11 => ?_)
          · rw [if_pos c11] at hR
            refine XM_iconst (v := 1) C dMo_isSeen_96 rfl ?_
            refine XM_goto (tgt := 101) C dMo_isSeen_97 (by decide) ?_
            refine XM_istore_n (lv' := [(2, .int ((1 : Int32))), (0, .ref (M.1)), (1, .int (x1)), (3, .int (x3))]) C dMo_isSeen_101 (by decide) rfl ?_
            refine XM_iinc (v := x3 + 1) (lv' := [(3, .int (x3 + 1)), (2, .int ((1 : Int32))), (0, .ref (M.1)), (1, .int (x1))]) C dMo_isSeen_102 rfl rfl (by decide) rfl ?_
            refine XM_goto (tgt := 59) C dMo_isSeen_105 (by decide) ?_
            refine XM_sub (lv' := [(0, .ref (M.1)), (1, .int (x1)), (2, .int ((1 : Int32))), (3, .int (x3 + 1))]) [2, 3, 1, 0] rfl ?_
            exact (ih (x1) ((1 : Int32)) (x3 + 1) _ _ _).2.2.2 hR
          · rw [if_neg c11] at hR
            refine XM_aload_n C dMo_isSeen_76 rfl ?_
            refine XM_get (k := 15) (v := .ref (M.2.1 15)) C rfl fwMo_49 dMo_isSeen_77 ?_
            refine XM_iload_n C dMo_isSeen_80 rfl ?_
            obtain ⟨q12, hR⟩ := o_if hR
            refine XM_iald (k := 15) (n := 25) C rfl (xin_vp q12) dMo_isSeen_81 ?_
            refine XM_aload_n C dMo_isSeen_82 rfl ?_
            refine XM_get (k := 25) (v := .ref (M.2.1 25)) C rfl fwMo_61 dMo_isSeen_83 ?_
            refine XM_bipush (v := 25) C dMo_isSeen_86 (by decide) ?_
            refine XM_iload_n C dMo_isSeen_88 rfl ?_
            refine XM_imul C dMo_isSeen_89 ?_
            refine XM_iload_n C dMo_isSeen_90 rfl ?_
            refine XM_iadd C dMo_isSeen_91 ?_
            obtain ⟨q13, hR⟩ := o_if hR
            refine XM_iald (k := 25) (n := 5000) C rfl (xin_vp q13) dMo_isSeen_92 ?_
            refine XM_icmp_gt (tgt := 100) C dMo_isSeen_93 (by decide) (fun c14 => ?_) (fun c14 => ?_)
            · rw [if_pos c14] at hR
              refine XM_iconst (v := 0) C dMo_isSeen_100 rfl ?_
              refine XM_istore_n (lv' := [(2, .int ((0 : Int32))), (0, .ref (M.1)), (1, .int (x1)), (3, .int (x3))]) C dMo_isSeen_101 (by decide) rfl ?_
              refine XM_iinc (v := x3 + 1) (lv' := [(3, .int (x3 + 1)), (2, .int ((0 : Int32))), (0, .ref (M.1)), (1, .int (x1))]) C dMo_isSeen_102 rfl rfl (by decide) rfl ?_
              refine XM_goto (tgt := 59) C dMo_isSeen_105 (by decide) ?_
              refine XM_sub (lv' := [(0, .ref (M.1)), (1, .int (x1)), (2, .int ((0 : Int32))), (3, .int (x3 + 1))]) [2, 3, 1, 0] rfl ?_
              exact (ih (x1) ((0 : Int32)) (x3 + 1) _ _ _).2.2.2 hR
            · rw [if_neg c14] at hR
              refine XM_iconst (v := 1) C dMo_isSeen_96 rfl ?_
              refine XM_goto (tgt := 101) C dMo_isSeen_97 (by decide) ?_
              refine XM_istore_n (lv' := [(2, .int ((1 : Int32))), (0, .ref (M.1)), (1, .int (x1)), (3, .int (x3))]) C dMo_isSeen_101 (by decide) rfl ?_
              refine XM_iinc (v := x3 + 1) (lv' := [(3, .int (x3 + 1)), (2, .int ((1 : Int32))), (0, .ref (M.1)), (1, .int (x1))]) C dMo_isSeen_102 rfl rfl (by decide) rfl ?_
              refine XM_goto (tgt := 59) C dMo_isSeen_105 (by decide) ?_
              refine XM_sub (lv' := [(0, .ref (M.1)), (1, .int (x1)), (2, .int ((1 : Int32))), (3, .int (x3 + 1))]) [2, 3, 1, 0] rfl ?_
              exact (ih (x1) ((1 : Int32)) (x3 + 1) _ _ _).2.2.2 hR
theorem Mo_isSeen_c {l : Launch} {G : xG} {B : Nat} {M : xM} {n : Nat} {σ : mS} {τ : mL} {R : Int32 × mS × mL} (hR : Mo_isSeen_f n 0 0 0 0 σ τ = some R) : mCon l yMo_isSeen cMo_isSeen 4 (some .boolean) 0 0 G B M [.ref M.1] σ τ (some (.int R.1)) R.2.1 R.2.2 := mCon.of (by decide) (Nat.le_of_ble_eq_true rfl) (fun F e C hr => XM_sub (lv' := [(0, .ref (M.1))]) [0] rfl ((Mo_isSeen_x C hr n 0 0 0 σ τ R).1 hR))
def Mo_add_t0 (f : Nat → Int32 → Int32 → Int32 → Int32 → mS → mL → Option (Int32 × mS × mL)) (n : Nat) (x1 : Int32) (x2 : Int32) (x3 : Int32) (x4 : Int32) (σ : mS) (τ : mL) : Option (Int32 × mS × mL) := bnd (su σ 22 0 ((σ 22 0) + ((1 : Int32)))) (fun s1 => f 20 (x1) (σ 22 0) ((0 : Int32)) ((0 : Int32)) s1 τ)
def Mo_add_t20 (f : Nat → Int32 → Int32 → Int32 → Int32 → mS → mL → Option (Int32 × mS × mL)) (n : Nat) (x1 : Int32) (x2 : Int32) (x3 : Int32) (x4 : Int32) (σ : mS) (τ : mL) : Option (Int32 × mS × mL) := (if (3 : Int32) ≤ x4 then (if xin (x2) 200 = true then (if zb (x3) = true then bnd (su σ 33 (Int32.toNatClampNeg (x2)) (x3)) (fun s5 => f 114 (x1) (x2) (x3) ((0 : Int32)) s5 τ) else none) else none) else (if σ 1 0 ≤ x4 then (if xin ((((3 : Int32)) * (x2)) + (x4)) 600 = true then bnd (su σ 24 (Int32.toNatClampNeg ((((3 : Int32)) * (x2)) + (x4))) (((-2) : Int32))) (fun s8 => (if x3 = 0 then (if s8 1 0 ≤ x4 then f 20 (x1) (x2) ((0 : Int32)) (x4 + 1) s8 τ else (if xin (x4) 3 = true then (if xin ((((6 : Int32)) * (x4)) + (s8 38 (Int32.toNatClampNeg (x4)))) 18 = true then (if s8 4 (Int32.toNatClampNeg ((((6 : Int32)) * (x4)) + (s8 38 (Int32.toNatClampNeg (x4))))) ≤ 0 then f 20 (x1) (x2) ((0 : Int32)) (x4 + 1) s8 τ else f 20 (x1) (x2) ((1 : Int32)) (x4 + 1) s8 τ) else none) else none)) else f 20 (x1) (x2) ((1 : Int32)) (x4 + 1) s8 τ)) else none) else (if xin (x4) 3 = true then (if xin ((((3 : Int32)) * (x2)) + (x4)) 600 = true then bnd (su σ 24 (Int32.toNatClampNeg ((((3 : Int32)) * (x2)) + (x4))) (σ 38 (Int32.toNatClampNeg (x4)))) (fun s16 => (if x3 = 0 then (if s16 1 0 ≤ x4 then f 20 (x1) (x2) ((0 : Int32)) (x4 + 1) s16 τ else (if xin (x4) 3 = true then (if xin ((((6 : Int32)) * (x4)) + (s16 38 (Int32.toNatClampNeg (x4)))) 18 = true then (if s16 4 (Int32.toNatClampNeg ((((6 : Int32)) * (x4)) + (s16 38 (Int32.toNatClampNeg (x4))))) ≤ 0 then f 20 (x1) (x2) ((0 : Int32)) (x4 + 1) s16 τ else f 20 (x1) (x2) ((1 : Int32)) (x4 + 1) s16 τ) else none) else none)) else f 20 (x1) (x2) ((1 : Int32)) (x4 + 1) s16 τ)) else none) else none)))
def Mo_add_t114 (f : Nat → Int32 → Int32 → Int32 → Int32 → mS → mL → Option (Int32 × mS × mL)) (n : Nat) (x1 : Int32) (x2 : Int32) (x3 : Int32) (x4 : Int32) (σ : mS) (τ : mL) : Option (Int32 × mS × mL) := (if (25 : Int32) ≤ x4 then (if xin (x2) 200 = true then bnd (su σ 27 (Int32.toNatClampNeg (x2)) (x1)) (fun s24 => (if xin (x2) 200 = true then bnd (su s24 28 (Int32.toNatClampNeg (x2)) ((0 : Int32))) (fun s26 => (if xin (x2) 200 = true then bnd (su s26 29 (Int32.toNatClampNeg (x2)) (((-2) : Int32))) (fun s28 => (if 0 ≤ x1 then (if xin (x1) 200 = true then (if xin (x2) 200 = true then bnd (su s28 30 (Int32.toNatClampNeg (x2)) ((s28 30 (Int32.toNatClampNeg (x1))) + ((1 : Int32)))) (fun s32 => (if x1 < 0 then some (0, s32, τ) else (if xin (x1) 200 = true then (if xin (x1) 200 = true then bnd (su s32 28 (Int32.toNatClampNeg (x1)) ((s32 28 (Int32.toNatClampNeg (x1))) + ((1 : Int32)))) (fun s36 => some (0, s36, τ)) else none) else none))) else none) else none) else (if xin (x2) 200 = true then bnd (su s28 30 (Int32.toNatClampNeg (x2)) ((0 : Int32))) (fun s38 => (if x1 < 0 then some (0, s38, τ) else (if xin (x1) 200 = true then (if xin (x1) 200 = true then bnd (su s38 28 (Int32.toNatClampNeg (x1)) ((s38 28 (Int32.toNatClampNeg (x1))) + ((1 : Int32)))) (fun s42 => some (0, s42, τ)) else none) else none))) else none))) else none)) else none)) else none) else (if xin (x4) 25 = true then (if xin ((((25 : Int32)) * (x2)) + (x4)) 5000 = true then bnd (su σ 25 (Int32.toNatClampNeg ((((25 : Int32)) * (x2)) + (x4))) (σ 15 (Int32.toNatClampNeg (x4)))) (fun s45 => f 114 (x1) (x2) (x3) (x4 + 1) s45 τ) else none) else none))
def Mo_add_f : Nat → Nat → Int32 → Int32 → Int32 → Int32 → mS → mL → Option (Int32 × mS × mL)
  | 0 => fun _ _ _ _ _ _ _ => none
  | n + 1 => fun p x1 x2 x3 x4 σ τ => if p = 0 then Mo_add_t0 (Mo_add_f n) n x1 x2 x3 x4 σ τ else if p = 20 then Mo_add_t20 (Mo_add_f n) n x1 x2 x3 x4 σ τ else if p = 114 then Mo_add_t114 (Mo_add_f n) n x1 x2 x3 x4 σ τ else none
theorem Mo_add_e0 (n : Nat) (x1 : Int32) (x2 : Int32) (x3 : Int32) (x4 : Int32) (σ : mS) (τ : mL) : Mo_add_f (n + 1) 0 x1 x2 x3 x4 σ τ = Mo_add_t0 (Mo_add_f n) n x1 x2 x3 x4 σ τ := by
  show (if 0 = 0 then Mo_add_t0 (Mo_add_f n) n x1 x2 x3 x4 σ τ else if 0 = 20 then Mo_add_t20 (Mo_add_f n) n x1 x2 x3 x4 σ τ else if 0 = 114 then Mo_add_t114 (Mo_add_f n) n x1 x2 x3 x4 σ τ else none) = _
  rw [if_pos rfl]
theorem Mo_add_e20 (n : Nat) (x1 : Int32) (x2 : Int32) (x3 : Int32) (x4 : Int32) (σ : mS) (τ : mL) : Mo_add_f (n + 1) 20 x1 x2 x3 x4 σ τ = Mo_add_t20 (Mo_add_f n) n x1 x2 x3 x4 σ τ := by
  show (if 20 = 0 then Mo_add_t0 (Mo_add_f n) n x1 x2 x3 x4 σ τ else if 20 = 20 then Mo_add_t20 (Mo_add_f n) n x1 x2 x3 x4 σ τ else if 20 = 114 then Mo_add_t114 (Mo_add_f n) n x1 x2 x3 x4 σ τ else none) = _
  rw [if_neg (by decide), if_pos rfl]
theorem Mo_add_e114 (n : Nat) (x1 : Int32) (x2 : Int32) (x3 : Int32) (x4 : Int32) (σ : mS) (τ : mL) : Mo_add_f (n + 1) 114 x1 x2 x3 x4 σ τ = Mo_add_t114 (Mo_add_f n) n x1 x2 x3 x4 σ τ := by
  show (if 114 = 0 then Mo_add_t0 (Mo_add_f n) n x1 x2 x3 x4 σ τ else if 114 = 20 then Mo_add_t20 (Mo_add_f n) n x1 x2 x3 x4 σ τ else if 114 = 114 then Mo_add_t114 (Mo_add_f n) n x1 x2 x3 x4 σ τ else none) = _
  rw [if_neg (by decide), if_neg (by decide), if_pos rfl]
set_option maxRecDepth 100000 in
set_option maxHeartbeats 8000000 in
theorem Mo_add_x {F : xF} {G : xG} {B : Nat} {M : xM} (C : xC F G B cMo_add RMo 5 0 0 0 0) (hr : (xFM F).sig.returnType = none) : ∀ (n : Nat) (x1 : Int32) (x2 : Int32) (x3 : Int32) (x4 : Int32) (σ : mS) (τ : mL) (R : Int32 × mS × mL), (Mo_add_f n 0 x1 x2 x3 x4 σ τ = some R → XM F G B (xZ F G B (mP M none R.2.1 R.2.2) 0 0) 5 M σ τ 0 [(0, .ref (M.1)), (1, .int (x1))] []) ∧ (Mo_add_f n 20 x1 x2 x3 x4 σ τ = some R → XM F G B (xZ F G B (mP M none R.2.1 R.2.2) 0 0) 5 M σ τ 20 [(0, .ref (M.1)), (1, .int (x1)), (2, .int (x2)), (3, .int (x3)), (4, .int (x4))] []) ∧ (Mo_add_f n 114 x1 x2 x3 x4 σ τ = some R → XM F G B (xZ F G B (mP M none R.2.1 R.2.2) 0 0) 5 M σ τ 114 [(0, .ref (M.1)), (1, .int (x1)), (2, .int (x2)), (3, .int (x3)), (4, .int (x4))] []) := by
  intro n
  induction n with
  | zero => exact fun _ _ _ _ _ _ _ => ⟨(fun hR => nomatch (show (none : Option _) = some _ from hR)), (fun hR => nomatch (show (none : Option _) = some _ from hR)), (fun hR => nomatch (show (none : Option _) = some _ from hR))⟩
  | succ n ih =>
    intro x1 x2 x3 x4 σ τ R
    refine ⟨fun hR => ?_, fun hR => ?_, fun hR => ?_⟩
    · rw [Mo_add_e0] at hR
      unfold Mo_add_t0 at hR
      refine XM_aload_n C dMo_add_0 rfl ?_
      refine XM_get (k := 22) (v := .int (σ 22 0)) C rfl fwMo_199 dMo_add_1 ?_
      refine XM_istore_n (lv' := [(2, .int (σ 22 0)), (0, .ref (M.1)), (1, .int (x1))]) C dMo_add_4 (by decide) rfl ?_
      refine XM_aload_n C dMo_add_5 rfl ?_
      refine XM_dup C dMo_add_6 rfl ?_
      refine XM_get (k := 22) (v := .int (σ 22 0)) C rfl fwMo_199 dMo_add_7 ?_
      refine XM_iconst (v := 1) C dMo_add_10 rfl ?_
      refine XM_iadd C dMo_add_11 ?_
      refine XM_put (k := 22) C rfl fwMo_199 rfl rfl rfl dMo_add_12 ?_
      obtain ⟨s1, es1, hR⟩ := b_bnd hR
      rw [← es1]
      refine XM_iconst (v := 0) C dMo_add_15 rfl ?_
      refine XM_istore_n (lv' := [(3, .int ((0 : Int32))), (2, .int (σ 22 0)), (0, .ref (M.1)), (1, .int (x1))]) C dMo_add_16 (by decide) rfl ?_
      refine XM_iconst (v := 0) C dMo_add_17 rfl ?_
      refine XM_istore (lv' := [(4, .int ((0 : Int32))), (3, .int ((0 : Int32))), (2, .int (σ 22 0)), (0, .ref (M.1)), (1, .int (x1))]) C dMo_add_18 (by decide) rfl ?_
      refine XM_sub (lv' := [(0, .ref (M.1)), (1, .int (x1)), (2, .int (σ 22 0)), (3, .int ((0 : Int32))), (4, .int ((0 : Int32)))]) [3, 4, 2, 1, 0] rfl ?_
      exact (ih (x1) (σ 22 0) ((0 : Int32)) ((0 : Int32)) _ _ _).2.1 hR
    · rw [Mo_add_e20] at hR
      unfold Mo_add_t20 at hR
      refine XM_iload C dMo_add_20 rfl ?_
      refine XM_iconst (v := 3) C dMo_add_22 rfl ?_
      refine XM_icmp_ge (tgt := 104) C dMo_add_23 (by decide) (fun c2 => ?_) (fun c2 => ?_)
      · rw [if_pos c2] at hR
        refine XM_aload_n C dMo_add_104 rfl ?_
        refine XM_get (k := 33) (v := .ref (M.2.1 33)) C rfl fwMo_85 dMo_add_105 ?_
        refine XM_iload_n C dMo_add_108 rfl ?_
        refine XM_iload_n C dMo_add_109 rfl ?_
        obtain ⟨q3, hR⟩ := o_if hR
        obtain ⟨b4, hR⟩ := o_if hR
        refine XM_zast (k := 33) (n := 200) C rfl (xin_vp q3) (zb_v b4) dMo_add_110 ?_
        obtain ⟨s5, es5, hR⟩ := b_bnd hR
        rw [← es5]
        refine XM_iconst (v := 0) C dMo_add_111 rfl ?_
        refine XM_istore (lv' := [(4, .int ((0 : Int32))), (0, .ref (M.1)), (1, .int (x1)), (2, .int (x2)), (3, .int (x3))]) C dMo_add_112 (by decide) rfl ?_
        refine XM_sub (lv' := [(0, .ref (M.1)), (1, .int (x1)), (2, .int (x2)), (3, .int (x3)), (4, .int ((0 : Int32)))]) [1, 2, 3, 4, 0] rfl ?_
        exact (ih (x1) (x2) (x3) ((0 : Int32)) _ _ _).2.2 hR
      · rw [if_neg c2] at hR
        refine XM_aload_n C dMo_add_26 rfl ?_
        refine XM_get (k := 24) (v := .ref (M.2.1 24)) C rfl fwMo_58 dMo_add_27 ?_
        refine XM_iconst (v := 3) C dMo_add_30 rfl ?_
        refine XM_iload_n C dMo_add_31 rfl ?_
        refine XM_imul C dMo_add_32 ?_
        refine XM_iload C dMo_add_33 rfl ?_
        refine XM_iadd C dMo_add_35 ?_
        refine XM_iload C dMo_add_36 rfl ?_
        refine XM_aload_n C dMo_add_38 rfl ?_
        refine XM_get (k := 1) (v := .int (σ 1 0)) C rfl fwMo_128 dMo_add_39 ?_
        refine XM_icmp_ge (tgt := 55) C dMo_add_42 (by decide) (fun c6 => ?_) (fun c6 => ?_)
        · rw [if_pos c6] at hR
          refine XM_bipush (v := (-2)) C dMo_add_55 (by decide) ?_
          obtain ⟨q7, hR⟩ := o_if hR
          refine XM_iast (k := 24) (n := 600) C rfl (xin_vp q7) dMo_add_57 ?_
          obtain ⟨s8, es8, hR⟩ := b_bnd hR
          rw [← es8]
          refine XM_iload_n C dMo_add_58 rfl ?_
          refine XM_if_ne (tgt := 92) C dMo_add_59 (by decide) (fun c9 => ?_) (fun c9 => ?_)
          · rw [if_neg c9] at hR
            refine XM_iconst (v := 1) C dMo_add_92 rfl ?_
            refine XM_goto (tgt := 97) C dMo_add_93 (by decide) ?_
            refine XM_istore_n (lv' := [(3, .int ((1 : Int32))), (0, .ref (M.1)), (1, .int (x1)), (2, .int (x2)), (4, .int (x4))]) C dMo_add_97 (by decide) rfl ?_
            refine XM_iinc (v := x4 + 1) (lv' := [(4, .int (x4 + 1)), (3, .int ((1 : Int32))), (0, .ref (M.1)), (1, .int (x1)), (2, .int (x2))]) C dMo_add_98 rfl rfl (by decide) rfl ?_
            refine XM_goto (tgt := 20) C dMo_add_101 (by decide) ?_
            refine XM_sub (lv' := [(0, .ref (M.1)), (1, .int (x1)), (2, .int (x2)), (3, .int ((1 : Int32))), (4, .int (x4 + 1))]) [2, 3, 4, 1, 0] rfl ?_
            exact (ih (x1) (x2) ((1 : Int32)) (x4 + 1) _ _ _).2.1 hR
          · rw [if_pos c9] at hR
            refine XM_iload C dMo_add_62 rfl ?_
            refine XM_aload_n C dMo_add_64 rfl ?_
            refine XM_get (k := 1) (v := .int (s8 1 0)) C rfl fwMo_128 dMo_add_65 ?_
            refine XM_icmp_ge (tgt := 96) C dMo_add_68 (by decide) (fun c10 => ?_) (fun c10 => ?_)
            · rw [if_pos c10] at hR
              refine XM_iconst (v := 0) C dMo_add_96 rfl ?_
              refine XM_istore_n (lv' := [(3, .int ((0 : Int32))), (0, .ref (M.1)), (1, .int (x1)), (2, .int (x2)), (4, .int (x4))]) C dMo_add_97 (by decide) rfl ?_
              refine XM_iinc (v := x4 + 1) (lv' := [(4, .int (x4 + 1)), (3, .int ((0 : Int32))), (0, .ref (M.1)), (1, .int (x1)), (2, .int (x2))]) C dMo_add_98 rfl rfl (by decide) rfl ?_
              refine XM_goto (tgt := 20) C dMo_add_101 (by decide) ?_
              refine XM_sub (lv' := [(0, .ref (M.1)), (1, .int (x1)), (2, .int (x2)), (3, .int ((0 : Int32))), (4, .int (x4 + 1))]) [2, 3, 4, 1, 0] rfl ?_
              exact (ih (x1) (x2) ((0 : Int32)) (x4 + 1) _ _ _).2.1 hR
            · rw [if_neg c10] at hR
              refine XM_aload_n C dMo_add_71 rfl ?_
              refine XM_get (k := 4) (v := .ref (M.2.1 4)) C rfl fwMo_16 dMo_add_72 ?_
              refine XM_bipush (v := 6) C dMo_add_75 (by decide) ?_
              refine XM_iload C dMo_add_77 rfl ?_
              refine XM_imul C dMo_add_79 ?_
              refine XM_aload_n C dMo_add_80 rfl ?_
              refine XM_get (k := 38) (v := .ref (M.2.1 38)) C rfl fwMo_89 dMo_add_81 ?_
              refine XM_iload C dMo_add_84 rfl ?_
              obtain ⟨q11, hR⟩ := o_if hR
              refine XM_iald (k := 38) (n := 3) C rfl (xin_vp q11) dMo_add_86 ?_
              refine XM_iadd C dMo_add_87 ?_
              obtain ⟨q12, hR⟩ := o_if hR
              refine XM_iald (k := 4) (n := 18) C rfl (xin_vp q12) dMo_add_88 ?_
              refine XM_if_le (tgt := 96) C dMo_add_89 (by decide) (fun c13 => ?_) (fun c13 => ?_)
              · rw [if_pos c13] at hR
                refine XM_iconst (v := 0) C dMo_add_96 rfl ?_
                refine XM_istore_n (lv' := [(3, .int ((0 : Int32))), (0, .ref (M.1)), (1, .int (x1)), (2, .int (x2)), (4, .int (x4))]) C dMo_add_97 (by decide) rfl ?_
                refine XM_iinc (v := x4 + 1) (lv' := [(4, .int (x4 + 1)), (3, .int ((0 : Int32))), (0, .ref (M.1)), (1, .int (x1)), (2, .int (x2))]) C dMo_add_98 rfl rfl (by decide) rfl ?_
                refine XM_goto (tgt := 20) C dMo_add_101 (by decide) ?_
                refine XM_sub (lv' := [(0, .ref (M.1)), (1, .int (x1)), (2, .int (x2)), (3, .int ((0 : Int32))), (4, .int (x4 + 1))]) [2, 3, 4, 1, 0] rfl ?_
                exact (ih (x1) (x2) ((0 : Int32)) (x4 + 1) _ _ _).2.1 hR
              · rw [if_neg c13] at hR
                refine XM_iconst (v := 1) C dMo_add_92 rfl ?_
                refine XM_goto (tgt := 97) C dMo_add_93 (by decide) ?_
                refine XM_istore_n (lv' := [(3, .int ((1 : Int32))), (0, .ref (M.1)), (1, .int (x1)), (2, .int (x2)), (4, .int (x4))]) C dMo_add_97 (by decide) rfl ?_
                refine XM_iinc (v := x4 + 1) (lv' := [(4, .int (x4 + 1)), (3, .int ((1 : Int32))), (0, .ref (M.1)), (1, .int (x1)), (2, .int (x2))]) C dMo_add_98 rfl rfl (by decide) rfl ?_
                refine XM_goto (tgt := 20) C dMo_add_101 (by decide) ?_
                refine XM_sub (lv' := [(0, .ref (M.1)), (1, .int (x1)), (2, .int (x2)), (3, .int ((1 : Int32))), (4, .int (x4 + 1))]) [2, 3, 4, 1, 0] rfl ?_
                exact (ih (x1) (x2) ((1 : Int32)) (x4 + 1) _ _ _).2.1 hR
        · rw [if_neg c6] at hR
          refine XM_aload_n C dMo_add_45 rfl ?_
          refine XM_get (k := 38) (v := .ref (M.2.1 38)) C rfl fwMo_89 dMo_add_46 ?_
          refine XM_iload C dMo_add_49 rfl ?_
          obtain ⟨q14, hR⟩ := o_if hR
          refine XM_iald (k := 38) (n := 3) C rfl (xin_vp q14) dMo_add_51 ?_
          refine XM_goto (tgt := 57) C dMo_add_52 (by decide) ?_
          obtain ⟨q15, hR⟩ := o_if hR
          refine XM_iast (k := 24) (n := 600) C rfl (xin_vp q15) dMo_add_57 ?_
          obtain ⟨s16, es16, hR⟩ := b_bnd hR
          rw [← es16]
          refine XM_iload_n C dMo_add_58 rfl ?_
          refine XM_if_ne (tgt := 92) C dMo_add_59 (by decide) (fun c17 => ?_) (fun c17 => ?_)
          · rw [if_neg c17] at hR
            refine XM_iconst (v := 1) C dMo_add_92 rfl ?_
            refine XM_goto (tgt := 97) C dMo_add_93 (by decide) ?_
            refine XM_istore_n (lv' := [(3, .int ((1 : Int32))), (0, .ref (M.1)), (1, .int (x1)), (2, .int (x2)), (4, .int (x4))]) C dMo_add_97 (by decide) rfl ?_
            refine XM_iinc (v := x4 + 1) (lv' := [(4, .int (x4 + 1)), (3, .int ((1 : Int32))), (0, .ref (M.1)), (1, .int (x1)), (2, .int (x2))]) C dMo_add_98 rfl rfl (by decide) rfl ?_
            refine XM_goto (tgt := 20) C dMo_add_101 (by decide) ?_
            refine XM_sub (lv' := [(0, .ref (M.1)), (1, .int (x1)), (2, .int (x2)), (3, .int ((1 : Int32))), (4, .int (x4 + 1))]) [2, 3, 4, 1, 0] rfl ?_
            exact (ih (x1) (x2) ((1 : Int32)) (x4 + 1) _ _ _).2.1 hR
          · rw [if_pos c17] at hR
            refine XM_iload C dMo_add_62 rfl ?_
            refine XM_aload_n C dMo_add_64 rfl ?_
            refine XM_get (k := 1) (v := .int (s16 1 0)) C rfl fwMo_128 dMo_add_65 ?_
            refine XM_icmp_ge (tgt := 96) C dMo_add_68 (by decide) (fun c18 => ?_) (fun c18 => ?_)
            · rw [if_pos c18] at hR
              refine XM_iconst (v := 0) C dMo_add_96 rfl ?_
              refine XM_istore_n (lv' := [(3, .int ((0 : Int32))), (0, .ref (M.1)), (1, .int (x1)), (2, .int (x2)), (4, .int (x4))]) C dMo_add_97 (by decide) rfl ?_
              refine XM_iinc (v := x4 + 1) (lv' := [(4, .int (x4 + 1)), (3, .int ((0 : Int32))), (0, .ref (M.1)), (1, .int (x1)), (2, .int (x2))]) C dMo_add_98 rfl rfl (by decide) rfl ?_
              refine XM_goto (tgt := 20) C dMo_add_101 (by decide) ?_
              refine XM_sub (lv' := [(0, .ref (M.1)), (1, .int (x1)), (2, .int (x2)), (3, .int ((0 : Int32))), (4, .int (x4 + 1))]) [2, 3, 4, 1, 0] rfl ?_
              exact (ih (x1) (x2) ((0 : Int32)) (x4 + 1) _ _ _).2.1 hR
            · rw [if_neg c18] at hR
              refine XM_aload_n C dMo_add_71 rfl ?_
              refine XM_get (k := 4) (v := .ref (M.2.1 4)) C rfl fwMo_16 dMo_add_72 ?_
              refine XM_bipush (v := 6) C dMo_add_75 (by decide) ?_
              refine XM_iload C dMo_add_77 rfl ?_
              refine XM_imul C dMo_add_79 ?_
              refine XM_aload_n C dMo_add_80 rfl ?_
              refine XM_get (k := 38) (v := .ref (M.2.1 38)) C rfl fwMo_89 dMo_add_81 ?_
              refine XM_iload C dMo_add_84 rfl ?_
              obtain ⟨q19, hR⟩ := o_if hR
              refine XM_iald (k := 38) (n := 3) C rfl (xin_vp q19) dMo_add_86 ?_
              refine XM_iadd C dMo_add_87 ?_
              obtain ⟨q20, hR⟩ := o_if hR
              refine XM_iald (k := 4) (n := 18) C rfl (xin_vp q20) dMo_add_88 ?_
              refine XM_if_le (tgt := 96) C dMo_add_89 (by decide) (fun c21 => ?_) (fun c21 => ?_)
              · rw [if_pos c21] at hR
                refine XM_iconst (v := 0) C dMo_add_96 rfl ?_
                refine XM_istore_n (lv' := [(3, .int ((0 : Int32))), (0, .ref (M.1)), (1, .int (x1)), (2, .int (x2)), (4, .int (x4))]) C dMo_add_97 (by decide) rfl ?_
                refine XM_iinc (v := x4 + 1) (lv' := [(4, .int (x4 + 1)), (3, .int ((0 : Int32))), (0, .ref (M.1)), (1, .int (x1)), (2, .int (x2))]) C dMo_add_98 rfl rfl (by decide) rfl ?_
                refine XM_goto (tgt := 20) C dMo_add_101 (by decide) ?_
                refine XM_sub (lv' := [(0, .ref (M.1)), (1, .int (x1)), (2, .int (x2)), (3, .int ((0 : Int32))), (4, .int (x4 + 1))]) [2, 3, 4, 1, 0] rfl ?_
                exact (ih (x1) (x2) ((0 : Int32)) (x4 + 1) _ _ _).2.1 hR
              · rw [if_neg c21] at hR
                refine XM_iconst (v := 1) C dMo_add_92 rfl ?_
                refine XM_goto (tgt := 97) C dMo_add_93 (by decide) ?_
                refine XM_istore_n (lv' := [(3, .int ((1 : Int32))), (0, .ref (M.1)), (1, .int (x1)), (2, .int (x2)), (4, .int (x4))]) C dMo_add_97 (by decide) rfl ?_
                refine XM_iinc (v := x4 + 1) (lv' := [(4, .int (x4 + 1)), (3, .int ((1 : Int32))), (0, .ref (M.1)), (1, .int (x1)), (2, .int (x2))]) C dMo_add_98 rfl rfl (by decide) rfl ?_
                refine XM_goto (tgt := 20) C dMo_add_101 (by decide) ?_
                refine XM_sub (lv' := [(0, .ref (M.1)), (1, .int (x1)), (2, .int (x2)), (3, .int ((1 : Int32))), (4, .int (x4 + 1))]) [2, 3, 4, 1, 0] rfl ?_
                exact (ih (x1) (x2) ((1 : Int32)) (x4 + 1) _ _ _).2.1 hR
    · rw [Mo_add_e114] at hR
      unfold Mo_add_t114 at hR
      refine XM_iload C dMo_add_114 rfl ?_
      refine XM_bipush (v := 25) C dMo_add_116 (by decide) ?_
      refine XM_icmp_ge (tgt := 146) C dMo_add_118 (by decide) (fun c22 => ?_) (fun c22 => ?_)
      · rw [if_pos c22] at hR
        refine XM_aload_n C dMo_add_146 rfl ?_
        refine XM_get (k := 27) (v := .ref (M.2.1 27)) C rfl fwMo_67 dMo_add_147 ?_
        refine XM_iload_n C dMo_add_150 rfl ?_
        refine XM_iload_n C dMo_add_151 rfl ?_
        obtain ⟨q23, hR⟩ := o_if hR
        refine XM_iast (k := 27) (n := 200) C rfl (xin_vp q23) dMo_add_152 ?_
        obtain ⟨s24, es24, hR⟩ := b_bnd hR
        rw [← es24]
        refine XM_aload_n C dMo_add_153 rfl ?_
        refine XM_get (k := 28) (v := .ref (M.2.1 28)) C rfl fwMo_70 dMo_add_154 ?_
        refine XM_iload_n C dMo_add_157 rfl ?_
        refine XM_iconst (v := 0) C dMo_add_158 rfl ?_
        obtain ⟨q25, hR⟩ := o_if hR
        refine XM_iast (k := 28) (n := 200) C rfl (xin_vp q25) dMo_add_159 ?_
        obtain ⟨s26, es26, hR⟩ := b_bnd hR
        rw [← es26]
        refine XM_aload_n C dMo_add_160 rfl ?_
        refine XM_get (k := 29) (v := .ref (M.2.1 29)) C rfl fwMo_73 dMo_add_161 ?_
        refine XM_iload_n C dMo_add_164 rfl ?_
        refine XM_bipush (v := (-2)) C dMo_add_165 (by decide) ?_
        obtain ⟨q27, hR⟩ := o_if hR
        refine XM_iast (k := 29) (n := 200) C rfl (xin_vp q27) dMo_add_167 ?_
        obtain ⟨s28, es28, hR⟩ := b_bnd hR
        rw [← es28]
        refine XM_aload_n C dMo_add_168 rfl ?_
        refine XM_get (k := 30) (v := .ref (M.2.1 30)) C rfl fwMo_76 dMo_add_169 ?_
        refine XM_iload_n C dMo_add_172 rfl ?_
        refine XM_iload_n C dMo_add_173 rfl ?_
        refine XM_if_ge (tgt := 181) C dMo_add_174 (by decide) (fun c29 => ?_) (fun c29 => ?_)
        · rw [if_pos c29] at hR
          refine XM_aload_n C dMo_add_181 rfl ?_
          refine XM_get (k := 30) (v := .ref (M.2.1 30)) C rfl fwMo_76 dMo_add_182 ?_
          refine XM_iload_n C dMo_add_185 rfl ?_
          obtain ⟨q30, hR⟩ := o_if hR
          refine XM_iald (k := 30) (n := 200) C rfl (xin_vp q30) dMo_add_186 ?_
          refine XM_iconst (v := 1) C dMo_add_187 rfl ?_
          refine XM_iadd C dMo_add_188 ?_
          obtain ⟨q31, hR⟩ := o_if hR
          refine XM_iast (k := 30) (n := 200) C rfl (xin_vp q31) dMo_add_189 ?_
          obtain ⟨s32, es32, hR⟩ := b_bnd hR
          rw [← es32]
          refine XM_iload_n C dMo_add_190 rfl ?_
          refine XM_if_lt (tgt := 204) C dMo_add_191 (by decide) (fun c33 => ?_) (fun c33 => ?_)
          · rw [if_pos c33] at hR
            have hR := Option.some.inj hR
            subst hR
            exact XM_vret C hr dMo_add_204 rfl rfl rfl
          · rw [if_neg c33] at hR
            refine XM_aload_n C dMo_add_194 rfl ?_
            refine XM_get (k := 28) (v := .ref (M.2.1 28)) C rfl fwMo_70 dMo_add_195 ?_
            refine XM_iload_n C dMo_add_198 rfl ?_
            refine XM_dup2 C dMo_add_199 rfl rfl ?_
            obtain ⟨q34, hR⟩ := o_if hR
            refine XM_iald (k := 28) (n := 200) C rfl (xin_vp q34) dMo_add_200 ?_
            refine XM_iconst (v := 1) C dMo_add_201 rfl ?_
            refine XM_iadd C dMo_add_202 ?_
            obtain ⟨q35, hR⟩ := o_if hR
            refine XM_iast (k := 28) (n := 200) C rfl (xin_vp q35) dMo_add_203 ?_
            obtain ⟨s36, es36, hR⟩ := b_bnd hR
            rw [← es36]
            have hR := Option.some.inj hR
            subst hR
            exact XM_vret C hr dMo_add_204 rfl rfl rfl
        · rw [if_neg c29] at hR
          refine XM_iconst (v := 0) C dMo_add_177 rfl ?_
          refine XM_goto (tgt := 189) C dMo_add_178 (by decide) ?_
          obtain ⟨q37, hR⟩ := o_if hR
          refine XM_iast (k := 30) (n := 200) C rfl (xin_vp q37) dMo_add_189 ?_
          obtain ⟨s38, es38, hR⟩ := b_bnd hR
          rw [← es38]
          refine XM_iload_n C dMo_add_190 rfl ?_
          refine XM_if_lt (tgt := 204) C dMo_add_191 (by decide) (fun c39 => ?_) (fun c39 => ?_)
          · rw [if_pos c39] at hR
            have hR := Option.some.inj hR
            subst hR
            exact XM_vret C hr dMo_add_204 rfl rfl rfl
          · rw [if_neg c39] at hR
            refine XM_aload_n C dMo_add_194 rfl ?_
            refine XM_get (k := 28) (v := .ref (M.2.1 28)) C rfl fwMo_70 dMo_add_195 ?_
            refine XM_iload_n C dMo_add_198 rfl ?_
            refine XM_dup2 C dMo_add_199 rfl rfl ?_
            obtain ⟨q40, hR⟩ := o_if hR
            refine XM_iald (k := 28) (n := 200) C rfl (xin_vp q40) dMo_add_200 ?_
            refine XM_iconst (v := 1) C dMo_add_201 rfl ?_
            refine XM_iadd C dMo_add_202 ?_
            obtain ⟨q41, hR⟩ := o_if hR
            refine XM_iast (k := 28) (n := 200) C rfl (xin_vp q41) dMo_add_203 ?_
            obtain ⟨s42, es42, hR⟩ := b_bnd hR
            rw [← es42]
            have hR := Option.some.inj hR
            subst hR
            exact XM_vret C hr dMo_add_204 rfl rfl rfl
      · rw [if_neg c22] at hR
        refine XM_aload_n C dMo_add_121 rfl ?_
        refine XM_get (k := 25) (v := .ref (M.2.1 25)) C rfl fwMo_61 dMo_add_122 ?_
        refine XM_bipush (v := 25) C dMo_add_125 (by decide) ?_
        refine XM_iload_n C dMo_add_127 rfl ?_
        refine XM_imul C dMo_add_128 ?_
        refine XM_iload C dMo_add_129 rfl ?_
        refine XM_iadd C dMo_add_131 ?_
        refine XM_aload_n C dMo_add_132 rfl ?_
        refine XM_get (k := 15) (v := .ref (M.2.1 15)) C rfl fwMo_49 dMo_add_133 ?_
        refine XM_iload C dMo_add_136 rfl ?_
        obtain ⟨q43, hR⟩ := o_if hR
        refine XM_iald (k := 15) (n := 25) C rfl (xin_vp q43) dMo_add_138 ?_
        obtain ⟨q44, hR⟩ := o_if hR
        refine XM_iast (k := 25) (n := 5000) C rfl (xin_vp q44) dMo_add_139 ?_
        obtain ⟨s45, es45, hR⟩ := b_bnd hR
        rw [← es45]
        refine XM_iinc (v := x4 + 1) (lv' := [(4, .int (x4 + 1)), (0, .ref (M.1)), (1, .int (x1)), (2, .int (x2)), (3, .int (x3))]) C dMo_add_140 rfl rfl (by decide) rfl ?_
        refine XM_goto (tgt := 114) C dMo_add_143 (by decide) ?_
        refine XM_sub (lv' := [(0, .ref (M.1)), (1, .int (x1)), (2, .int (x2)), (3, .int (x3)), (4, .int (x4 + 1))]) [1, 2, 3, 4, 0] rfl ?_
        exact (ih (x1) (x2) (x3) (x4 + 1) _ _ _).2.2 hR
theorem Mo_add_c {l : Launch} {G : xG} {B : Nat} {M : xM} {n : Nat} {x1 : Int32} {σ : mS} {τ : mL} {R : Int32 × mS × mL} (hR : Mo_add_f n 0 x1 0 0 0 σ τ = some R) : mCon l yMo_add cMo_add 5 none 0 0 G B M [.ref M.1, .int x1] σ τ none R.2.1 R.2.2 := mCon.of (by decide) (Nat.le_of_ble_eq_true rfl) (fun F e C hr => XM_sub (lv' := [(0, .ref (M.1)), (1, .int (x1))]) [0, 1] rfl ((Mo_add_x C hr n x1 0 0 0 σ τ R).1 hR))
def Mo_keepExact_t0 (f : Nat → Int32 → Int32 → mS → mL → Option (Int32 × mS × mL)) (n : Nat) (x1 : Int32) (x2 : Int32) (σ : mS) (τ : mL) : Option (Int32 × mS × mL) := f 2 (x1) ((0 : Int32)) σ τ
def Mo_keepExact_t2 (f : Nat → Int32 → Int32 → mS → mL → Option (Int32 × mS × mL)) (n : Nat) (x1 : Int32) (x2 : Int32) (σ : mS) (τ : mL) : Option (Int32 × mS × mL) := (if (25 : Int32) ≤ x2 then (if xin (x1) 200 = true then bnd (su σ 32 (Int32.toNatClampNeg (x1)) (σ 39 0)) (fun s3 => some (0, s3, τ)) else none) else (if xin (x2) 25 = true then (if xin ((((25 : Int32)) * (x1)) + (x2)) 5000 = true then bnd (su σ 26 (Int32.toNatClampNeg ((((25 : Int32)) * (x1)) + (x2))) (σ 15 (Int32.toNatClampNeg (x2)))) (fun s6 => f 2 (x1) (x2 + 1) s6 τ) else none) else none))
def Mo_keepExact_f : Nat → Nat → Int32 → Int32 → mS → mL → Option (Int32 × mS × mL)
  | 0 => fun _ _ _ _ _ => none
  | n + 1 => fun p x1 x2 σ τ => if p = 0 then Mo_keepExact_t0 (Mo_keepExact_f n) n x1 x2 σ τ else if p = 2 then Mo_keepExact_t2 (Mo_keepExact_f n) n x1 x2 σ τ else none
theorem Mo_keepExact_e0 (n : Nat) (x1 : Int32) (x2 : Int32) (σ : mS) (τ : mL) : Mo_keepExact_f (n + 1) 0 x1 x2 σ τ = Mo_keepExact_t0 (Mo_keepExact_f n) n x1 x2 σ τ := by
  show (if 0 = 0 then Mo_keepExact_t0 (Mo_keepExact_f n) n x1 x2 σ τ else if 0 = 2 then Mo_keepExact_t2 (Mo_keepExact_f n) n x1 x2 σ τ else none) = _
  rw [if_pos rfl]
theorem Mo_keepExact_e2 (n : Nat) (x1 : Int32) (x2 : Int32) (σ : mS) (τ : mL) : Mo_keepExact_f (n + 1) 2 x1 x2 σ τ = Mo_keepExact_t2 (Mo_keepExact_f n) n x1 x2 σ τ := by
  show (if 2 = 0 then Mo_keepExact_t0 (Mo_keepExact_f n) n x1 x2 σ τ else if 2 = 2 then Mo_keepExact_t2 (Mo_keepExact_f n) n x1 x2 σ τ else none) = _
  rw [if_neg (by decide), if_pos rfl]
set_option maxRecDepth 100000 in
set_option maxHeartbeats 8000000 in
theorem Mo_keepExact_x {F : xF} {G : xG} {B : Nat} {M : xM} (C : xC F G B cMo_keepExact RMo 3 0 0 0 0) (hr : (xFM F).sig.returnType = none) : ∀ (n : Nat) (x1 : Int32) (x2 : Int32) (σ : mS) (τ : mL) (R : Int32 × mS × mL), (Mo_keepExact_f n 0 x1 x2 σ τ = some R → XM F G B (xZ F G B (mP M none R.2.1 R.2.2) 0 0) 3 M σ τ 0 [(0, .ref (M.1)), (1, .int (x1))] []) ∧ (Mo_keepExact_f n 2 x1 x2 σ τ = some R → XM F G B (xZ F G B (mP M none R.2.1 R.2.2) 0 0) 3 M σ τ 2 [(0, .ref (M.1)), (1, .int (x1)), (2, .int (x2))] []) := by
  intro n
  induction n with
  | zero => exact fun _ _ _ _ _ => ⟨(fun hR => nomatch (show (none : Option _) = some _ from hR)), (fun hR => nomatch (show (none : Option _) = some _ from hR))⟩
  | succ n ih =>
    intro x1 x2 σ τ R
    refine ⟨fun hR => ?_, fun hR => ?_⟩
    · rw [Mo_keepExact_e0] at hR
      unfold Mo_keepExact_t0 at hR
      refine XM_iconst (v := 0) C dMo_keepExact_0 rfl ?_
      refine XM_istore_n (lv' := [(2, .int ((0 : Int32))), (0, .ref (M.1)), (1, .int (x1))]) C dMo_keepExact_1 (by decide) rfl ?_
      refine XM_sub (lv' := [(0, .ref (M.1)), (1, .int (x1)), (2, .int ((0 : Int32)))]) [1, 2, 0] rfl ?_
      exact (ih (x1) ((0 : Int32)) _ _ _).2 hR
    · rw [Mo_keepExact_e2] at hR
      unfold Mo_keepExact_t2 at hR
      refine XM_iload_n C dMo_keepExact_2 rfl ?_
      refine XM_bipush (v := 25) C dMo_keepExact_3 (by decide) ?_
      refine XM_icmp_ge (tgt := 31) C dMo_keepExact_5 (by decide) (fun c1 => ?_) (fun c1 => ?_)
      · rw [if_pos c1] at hR
        refine XM_aload_n C dMo_keepExact_31 rfl ?_
        refine XM_get (k := 32) (v := .ref (M.2.1 32)) C rfl fwMo_82 dMo_keepExact_32 ?_
        refine XM_iload_n C dMo_keepExact_35 rfl ?_
        refine XM_aload_n C dMo_keepExact_36 rfl ?_
        refine XM_get (k := 39) (v := .int (σ 39 0)) C rfl fwMo_186 dMo_keepExact_37 ?_
        obtain ⟨q2, hR⟩ := o_if hR
        refine XM_iast (k := 32) (n := 200) C rfl (xin_vp q2) dMo_keepExact_40 ?_
        obtain ⟨s3, es3, hR⟩ := b_bnd hR
        rw [← es3]
        have hR := Option.some.inj hR
        subst hR
        exact XM_vret C hr dMo_keepExact_41 rfl rfl rfl
      · rw [if_neg c1] at hR
        refine XM_aload_n C dMo_keepExact_8 rfl ?_
        refine XM_get (k := 26) (v := .ref (M.2.1 26)) C rfl fwMo_64 dMo_keepExact_9 ?_
        refine XM_bipush (v := 25) C dMo_keepExact_12 (by decide) ?_
        refine XM_iload_n C dMo_keepExact_14 rfl ?_
        refine XM_imul C dMo_keepExact_15 ?_
        refine XM_iload_n C dMo_keepExact_16 rfl ?_
        refine XM_iadd C dMo_keepExact_17 ?_
        refine XM_aload_n C dMo_keepExact_18 rfl ?_
        refine XM_get (k := 15) (v := .ref (M.2.1 15)) C rfl fwMo_49 dMo_keepExact_19 ?_
        refine XM_iload_n C dMo_keepExact_22 rfl ?_
        obtain ⟨q4, hR⟩ := o_if hR
        refine XM_iald (k := 15) (n := 25) C rfl (xin_vp q4) dMo_keepExact_23 ?_
        obtain ⟨q5, hR⟩ := o_if hR
        refine XM_iast (k := 26) (n := 5000) C rfl (xin_vp q5) dMo_keepExact_24 ?_
        obtain ⟨s6, es6, hR⟩ := b_bnd hR
        rw [← es6]
        refine XM_iinc (v := x2 + 1) (lv' := [(2, .int (x2 + 1)), (0, .ref (M.1)), (1, .int (x1))]) C dMo_keepExact_25 rfl rfl (by decide) rfl ?_
        refine XM_goto (tgt := 2) C dMo_keepExact_28 (by decide) ?_
        refine XM_sub (lv' := [(0, .ref (M.1)), (1, .int (x1)), (2, .int (x2 + 1))]) [1, 2, 0] rfl ?_
        exact (ih (x1) (x2 + 1) _ _ _).2 hR
theorem Mo_keepExact_c {l : Launch} {G : xG} {B : Nat} {M : xM} {n : Nat} {x1 : Int32} {σ : mS} {τ : mL} {R : Int32 × mS × mL} (hR : Mo_keepExact_f n 0 x1 0 σ τ = some R) : mCon l yMo_keepExact cMo_keepExact 3 none 0 0 G B M [.ref M.1, .int x1] σ τ none R.2.1 R.2.2 := mCon.of (by decide) (Nat.le_of_ble_eq_true rfl) (fun F e C hr => XM_sub (lv' := [(0, .ref (M.1)), (1, .int (x1))]) [0, 1] rfl ((Mo_keepExact_x C hr n x1 0 σ τ R).1 hR))
def Mo_go_f (n : Nat) (x1 : Int32) (x2 : Int32) (x3 : Int32) (x4 : Int32) (x5 : Int32) (σ : mS) (τ : mL) : Option (Int32 × mS × mL) := obd (Mo_testAll_f n 0 (x1) (x2) 0 0 σ τ) (fun r1 => (if x3 < 0 then (if xin ((((12 : Int32)) * (x1)) + (x2)) 36 = true then (if 0 ≤ x3 then (if xin ((((12 : Int32)) * (x3)) + (x4)) 36 = true then obd (Mo_setNull_f n 0 ((r1.2.1 10 (Int32.toNatClampNeg ((((12 : Int32)) * (x1)) + (x2)))) ||| (r1.2.1 10 (Int32.toNatClampNeg ((((12 : Int32)) * (x3)) + (x4))))) 0 0 0 r1.2.1 r1.2.2) (fun r6 => (if xin ((((12 : Int32)) * (x1)) + (x2)) 36 = true then (if xin (x1) 3 = true then bnd (su r6.2.1 38 (Int32.toNatClampNeg (x1)) (r6.2.1 8 (Int32.toNatClampNeg ((((12 : Int32)) * (x1)) + (x2))))) (fun s9 => (if x3 < 0 then obd (Mo_arrive_f n (x5) s9 r6.2.2) (fun r11 => some (0, r11.2.1, r11.2.2)) else (if xin ((((12 : Int32)) * (x3)) + (x4)) 36 = true then (if xin (x3) 3 = true then bnd (su s9 38 (Int32.toNatClampNeg (x3)) (s9 8 (Int32.toNatClampNeg ((((12 : Int32)) * (x3)) + (x4))))) (fun s14 => obd (Mo_arrive_f n (x5) s14 r6.2.2) (fun r15 => some (0, r15.2.1, r15.2.2))) else none) else none))) else none) else none)) else none) else obd (Mo_setNull_f n 0 ((r1.2.1 10 (Int32.toNatClampNeg ((((12 : Int32)) * (x1)) + (x2)))) ||| ((0 : Int32))) 0 0 0 r1.2.1 r1.2.2) (fun r16 => (if xin ((((12 : Int32)) * (x1)) + (x2)) 36 = true then (if xin (x1) 3 = true then bnd (su r16.2.1 38 (Int32.toNatClampNeg (x1)) (r16.2.1 8 (Int32.toNatClampNeg ((((12 : Int32)) * (x1)) + (x2))))) (fun s19 => (if x3 < 0 then obd (Mo_arrive_f n (x5) s19 r16.2.2) (fun r21 => some (0, r21.2.1, r21.2.2)) else (if xin ((((12 : Int32)) * (x3)) + (x4)) 36 = true then (if xin (x3) 3 = true then bnd (su s19 38 (Int32.toNatClampNeg (x3)) (s19 8 (Int32.toNatClampNeg ((((12 : Int32)) * (x3)) + (x4))))) (fun s24 => obd (Mo_arrive_f n (x5) s24 r16.2.2) (fun r25 => some (0, r25.2.1, r25.2.2))) else none) else none))) else none) else none))) else none) else obd (Mo_testAll_f n 0 (x3) (x4) 0 0 r1.2.1 r1.2.2) (fun r26 => (if xin ((((12 : Int32)) * (x1)) + (x2)) 36 = true then (if 0 ≤ x3 then (if xin ((((12 : Int32)) * (x3)) + (x4)) 36 = true then obd (Mo_setNull_f n 0 ((r26.2.1 10 (Int32.toNatClampNeg ((((12 : Int32)) * (x1)) + (x2)))) ||| (r26.2.1 10 (Int32.toNatClampNeg ((((12 : Int32)) * (x3)) + (x4))))) 0 0 0 r26.2.1 r26.2.2) (fun r30 => (if xin ((((12 : Int32)) * (x1)) + (x2)) 36 = true then (if xin (x1) 3 = true then bnd (su r30.2.1 38 (Int32.toNatClampNeg (x1)) (r30.2.1 8 (Int32.toNatClampNeg ((((12 : Int32)) * (x1)) + (x2))))) (fun s33 => (if x3 < 0 then obd (Mo_arrive_f n (x5) s33 r30.2.2) (fun r35 => some (0, r35.2.1, r35.2.2)) else (if xin ((((12 : Int32)) * (x3)) + (x4)) 36 = true then (if xin (x3) 3 = true then bnd (su s33 38 (Int32.toNatClampNeg (x3)) (s33 8 (Int32.toNatClampNeg ((((12 : Int32)) * (x3)) + (x4))))) (fun s38 => obd (Mo_arrive_f n (x5) s38 r30.2.2) (fun r39 => some (0, r39.2.1, r39.2.2))) else none) else none))) else none) else none)) else none) else obd (Mo_setNull_f n 0 ((r26.2.1 10 (Int32.toNatClampNeg ((((12 : Int32)) * (x1)) + (x2)))) ||| ((0 : Int32))) 0 0 0 r26.2.1 r26.2.2) (fun r40 => (if xin ((((12 : Int32)) * (x1)) + (x2)) 36 = true then (if xin (x1) 3 = true then bnd (su r40.2.1 38 (Int32.toNatClampNeg (x1)) (r40.2.1 8 (Int32.toNatClampNeg ((((12 : Int32)) * (x1)) + (x2))))) (fun s43 => (if x3 < 0 then obd (Mo_arrive_f n (x5) s43 r40.2.2) (fun r45 => some (0, r45.2.1, r45.2.2)) else (if xin ((((12 : Int32)) * (x3)) + (x4)) 36 = true then (if xin (x3) 3 = true then bnd (su s43 38 (Int32.toNatClampNeg (x3)) (s43 8 (Int32.toNatClampNeg ((((12 : Int32)) * (x3)) + (x4))))) (fun s48 => obd (Mo_arrive_f n (x5) s48 r40.2.2) (fun r49 => some (0, r49.2.1, r49.2.2))) else none) else none))) else none) else none))) else none))))
set_option maxRecDepth 100000 in
set_option maxHeartbeats 8000000 in
theorem Mo_go_x {F : xF} {G : xG} {B : Nat} {M : xM} (C : xC F G B cMo_go RMo 6 6 135 0 0) (hr : (xFM F).sig.returnType = none) {n : Nat} {x1 x2 x3 x4 x5 : Int32} {σ : mS} {τ : mL} {R : Int32 × mS × mL} (hR : Mo_go_f n x1 x2 x3 x4 x5 σ τ = some R) : XM F G B (xZ F G B (mP M none R.2.1 R.2.2) 0 0) 6 M σ τ 0 [(0, .ref (M.1)), (1, .int (x1)), (2, .int (x2)), (3, .int (x3)), (4, .int (x4)), (5, .int (x5))] [] := by
  unfold Mo_go_f at hR
  refine XM_aload_n C dMo_go_0 rfl ?_
  refine XM_iload_n C dMo_go_1 rfl ?_
  refine XM_iload_n C dMo_go_2 rfl ?_
  obtain ⟨r1, hr1, hR⟩ := o_bind hR
  refine XM_callVv (As := [.int (x1), .int (x2)]) (rest := []) C (Mo_testAll_c hr1) wMo_202 ⟨by decide, by decide⟩ rfl rfl (Nat.le_of_ble_eq_true rfl) dMo_go_3 ?_
  refine XM_iload_n C dMo_go_6 rfl ?_
  refine XM_if_lt (tgt := 17) C dMo_go_7 (by decide) (fun c2 => ?_) (fun c2 => ?_)
  · rw [if_pos c2] at hR
    refine XM_aload_n C dMo_go_17 rfl ?_
    refine XM_aload_n C dMo_go_18 rfl ?_
    refine XM_get (k := 10) (v := .ref (M.2.1 10)) C rfl fwMo_34 dMo_go_19 ?_
    refine XM_bipush (v := 12) C dMo_go_22 (by decide) ?_
    refine XM_iload_n C dMo_go_24 rfl ?_
    refine XM_imul C dMo_go_25 ?_
    refine XM_iload_n C dMo_go_26 rfl ?_
    refine XM_iadd C dMo_go_27 ?_
    obtain ⟨q3, hR⟩ := o_if hR
    refine XM_iald (k := 10) (n := 36) C rfl (xin_vp q3) dMo_go_28 ?_
    refine XM_iload_n C dMo_go_29 rfl ?_
    refine XM_if_ge (tgt := 37) C dMo_go_30 (by decide) (fun c4 => ?_) (fun c4 => ?_)
    · rw [if_pos c4] at hR
      refine XM_aload_n C dMo_go_37 rfl ?_
      refine XM_get (k := 10) (v := .ref (M.2.1 10)) C rfl fwMo_34 dMo_go_38 ?_
      refine XM_bipush (v := 12) C dMo_go_41 (by decide) ?_
      refine XM_iload_n C dMo_go_43 rfl ?_
      refine XM_imul C dMo_go_44 ?_
      refine XM_iload C dMo_go_45 rfl ?_
      refine XM_iadd C dMo_go_47 ?_
      obtain ⟨q5, hR⟩ := o_if hR
      refine XM_iald (k := 10) (n := 36) C rfl (xin_vp q5) dMo_go_48 ?_
      refine XM_ior C dMo_go_49 ?_
      obtain ⟨r6, hr6, hR⟩ := o_bind hR
      refine XM_callVv (As := [.int ((r1.2.1 10 (Int32.toNatClampNeg ((((12 : Int32)) * (x1)) + (x2)))) ||| (r1.2.1 10 (Int32.toNatClampNeg ((((12 : Int32)) * (x3)) + (x4)))))]) (rest := []) C (Mo_setNull_c hr6) wMo_205 ⟨by decide, by decide⟩ rfl rfl (Nat.le_of_ble_eq_true rfl) dMo_go_50 ?_
      refine XM_aload_n C dMo_go_53 rfl ?_
      refine XM_get (k := 38) (v := .ref (M.2.1 38)) C rfl fwMo_89 dMo_go_54 ?_
      refine XM_iload_n C dMo_go_57 rfl ?_
      refine XM_aload_n C dMo_go_58 rfl ?_
      refine XM_get (k := 8) (v := .ref (M.2.1 8)) C rfl fwMo_28 dMo_go_59 ?_
      refine XM_bipush (v := 12) C dMo_go_62 (by decide) ?_
      refine XM_iload_n C dMo_go_64 rfl ?_
      refine XM_imul C dMo_go_65 ?_
      refine XM_iload_n C dMo_go_66 rfl ?_
      refine XM_iadd C dMo_go_67 ?_
      obtain ⟨q7, hR⟩ := o_if hR
      refine XM_iald (k := 8) (n := 36) C rfl (xin_vp q7) dMo_go_68 ?_
      obtain ⟨q8, hR⟩ := o_if hR
      refine XM_iast (k := 38) (n := 3) C rfl (xin_vp q8) dMo_go_69 ?_
      obtain ⟨s9, es9, hR⟩ := b_bnd hR
      rw [← es9]
      refine XM_iload_n C dMo_go_70 rfl ?_
      refine XM_if_lt (tgt := 92) C dMo_go_71 (by decide) (fun c10 => ?_) (fun c10 => ?_)
      · rw [if_pos c10] at hR
        refine XM_aload_n C dMo_go_92 rfl ?_
        refine XM_iload C dMo_go_93 rfl ?_
        obtain ⟨r11, hr11, hR⟩ := o_bind hR
        refine XM_callVv (As := [.int (x5)]) (rest := []) C (Mo_arrive_c hr11) wMo_208 ⟨by decide, by decide⟩ rfl rfl (Nat.le_of_ble_eq_true rfl) dMo_go_95 ?_
        have hR := Option.some.inj hR
        subst hR
        exact XM_vret C hr dMo_go_98 rfl rfl rfl
      · rw [if_neg c10] at hR
        refine XM_aload_n C dMo_go_74 rfl ?_
        refine XM_get (k := 38) (v := .ref (M.2.1 38)) C rfl fwMo_89 dMo_go_75 ?_
        refine XM_iload_n C dMo_go_78 rfl ?_
        refine XM_aload_n C dMo_go_79 rfl ?_
        refine XM_get (k := 8) (v := .ref (M.2.1 8)) C rfl fwMo_28 dMo_go_80 ?_
        refine XM_bipush (v := 12) C dMo_go_83 (by decide) ?_
        refine XM_iload_n C dMo_go_85 rfl ?_
        refine XM_imul C dMo_go_86 ?_
        refine XM_iload C dMo_go_87 rfl ?_
        refine XM_iadd C dMo_go_89 ?_
        obtain ⟨q12, hR⟩ := o_if hR
        refine XM_iald (k := 8) (n := 36) C rfl (xin_vp q12) dMo_go_90 ?_
        obtain ⟨q13, hR⟩ := o_if hR
        refine XM_iast (k := 38) (n := 3) C rfl (xin_vp q13) dMo_go_91 ?_
        obtain ⟨s14, es14, hR⟩ := b_bnd hR
        rw [← es14]
        refine XM_aload_n C dMo_go_92 rfl ?_
        refine XM_iload C dMo_go_93 rfl ?_
        obtain ⟨r15, hr15, hR⟩ := o_bind hR
        refine XM_callVv (As := [.int (x5)]) (rest := []) C (Mo_arrive_c hr15) wMo_208 ⟨by decide, by decide⟩ rfl rfl (Nat.le_of_ble_eq_true rfl) dMo_go_95 ?_
        have hR := Option.some.inj hR
        subst hR
        exact XM_vret C hr dMo_go_98 rfl rfl rfl
    · rw [if_neg c4] at hR
      refine XM_iconst (v := 0) C dMo_go_33 rfl ?_
      refine XM_goto (tgt := 49) C dMo_go_34 (by decide) ?_
      refine XM_ior C dMo_go_49 ?_
      obtain ⟨r16, hr16, hR⟩ := o_bind hR
      refine XM_callVv (As := [.int ((r1.2.1 10 (Int32.toNatClampNeg ((((12 : Int32)) * (x1)) + (x2)))) ||| ((0 : Int32)))]) (rest := []) C (Mo_setNull_c hr16) wMo_205 ⟨by decide, by decide⟩ rfl rfl (Nat.le_of_ble_eq_true rfl) dMo_go_50 ?_
      refine XM_aload_n C dMo_go_53 rfl ?_
      refine XM_get (k := 38) (v := .ref (M.2.1 38)) C rfl fwMo_89 dMo_go_54 ?_
      refine XM_iload_n C dMo_go_57 rfl ?_
      refine XM_aload_n C dMo_go_58 rfl ?_
      refine XM_get (k := 8) (v := .ref (M.2.1 8)) C rfl fwMo_28 dMo_go_59 ?_
      refine XM_bipush (v := 12) C dMo_go_62 (by decide) ?_
      refine XM_iload_n C dMo_go_64 rfl ?_
      refine XM_imul C dMo_go_65 ?_
      refine XM_iload_n C dMo_go_66 rfl ?_
      refine XM_iadd C dMo_go_67 ?_
      obtain ⟨q17, hR⟩ := o_if hR
      refine XM_iald (k := 8) (n := 36) C rfl (xin_vp q17) dMo_go_68 ?_
      obtain ⟨q18, hR⟩ := o_if hR
      refine XM_iast (k := 38) (n := 3) C rfl (xin_vp q18) dMo_go_69 ?_
      obtain ⟨s19, es19, hR⟩ := b_bnd hR
      rw [← es19]
      refine XM_iload_n C dMo_go_70 rfl ?_
      refine XM_if_lt (tgt := 92) C dMo_go_71 (by decide) (fun c20 => ?_) (fun c20 => ?_)
      · rw [if_pos c20] at hR
        refine XM_aload_n C dMo_go_92 rfl ?_
        refine XM_iload C dMo_go_93 rfl ?_
        obtain ⟨r21, hr21, hR⟩ := o_bind hR
        refine XM_callVv (As := [.int (x5)]) (rest := []) C (Mo_arrive_c hr21) wMo_208 ⟨by decide, by decide⟩ rfl rfl (Nat.le_of_ble_eq_true rfl) dMo_go_95 ?_
        have hR := Option.some.inj hR
        subst hR
        exact XM_vret C hr dMo_go_98 rfl rfl rfl
      · rw [if_neg c20] at hR
        refine XM_aload_n C dMo_go_74 rfl ?_
        refine XM_get (k := 38) (v := .ref (M.2.1 38)) C rfl fwMo_89 dMo_go_75 ?_
        refine XM_iload_n C dMo_go_78 rfl ?_
        refine XM_aload_n C dMo_go_79 rfl ?_
        refine XM_get (k := 8) (v := .ref (M.2.1 8)) C rfl fwMo_28 dMo_go_80 ?_
        refine XM_bipush (v := 12) C dMo_go_83 (by decide) ?_
        refine XM_iload_n C dMo_go_85 rfl ?_
        refine XM_imul C dMo_go_86 ?_
        refine XM_iload C dMo_go_87 rfl ?_
        refine XM_iadd C dMo_go_89 ?_
        obtain ⟨q22, hR⟩ := o_if hR
        refine XM_iald (k := 8) (n := 36) C rfl (xin_vp q22) dMo_go_90 ?_
        obtain ⟨q23, hR⟩ := o_if hR
        refine XM_iast (k := 38) (n := 3) C rfl (xin_vp q23) dMo_go_91 ?_
        obtain ⟨s24, es24, hR⟩ := b_bnd hR
        rw [← es24]
        refine XM_aload_n C dMo_go_92 rfl ?_
        refine XM_iload C dMo_go_93 rfl ?_
        obtain ⟨r25, hr25, hR⟩ := o_bind hR
        refine XM_callVv (As := [.int (x5)]) (rest := []) C (Mo_arrive_c hr25) wMo_208 ⟨by decide, by decide⟩ rfl rfl (Nat.le_of_ble_eq_true rfl) dMo_go_95 ?_
        have hR := Option.some.inj hR
        subst hR
        exact XM_vret C hr dMo_go_98 rfl rfl rfl
  · rw [if_neg c2] at hR
    refine XM_aload_n C dMo_go_10 rfl ?_
    refine XM_iload_n C dMo_go_11 rfl ?_
    refine XM_iload C dMo_go_12 rfl ?_
    obtain ⟨r26, hr26, hR⟩ := o_bind hR
    refine XM_callVv (As := [.int (x3), .int (x4)]) (rest := []) C (Mo_testAll_c hr26) wMo_202 ⟨by decide, by decide⟩ rfl rfl (Nat.le_of_ble_eq_true rfl) dMo_go_14 ?_
    refine XM_aload_n C dMo_go_17 rfl ?_
    refine XM_aload_n C dMo_go_18 rfl ?_
    refine XM_get (k := 10) (v := .ref (M.2.1 10)) C rfl fwMo_34 dMo_go_19 ?_
    refine XM_bipush (v := 12) C dMo_go_22 (by decide) ?_
    refine XM_iload_n C dMo_go_24 rfl ?_
    refine XM_imul C dMo_go_25 ?_
    refine XM_iload_n C dMo_go_26 rfl ?_
    refine XM_iadd C dMo_go_27 ?_
    obtain ⟨q27, hR⟩ := o_if hR
    refine XM_iald (k := 10) (n := 36) C rfl (xin_vp q27) dMo_go_28 ?_
    refine XM_iload_n C dMo_go_29 rfl ?_
    refine XM_if_ge (tgt := 37) C dMo_go_30 (by decide) (fun c28 => ?_) (fun c28 => ?_)
    · rw [if_pos c28] at hR
      refine XM_aload_n C dMo_go_37 rfl ?_
      refine XM_get (k := 10) (v := .ref (M.2.1 10)) C rfl fwMo_34 dMo_go_38 ?_
      refine XM_bipush (v := 12) C dMo_go_41 (by decide) ?_
      refine XM_iload_n C dMo_go_43 rfl ?_
      refine XM_imul C dMo_go_44 ?_
      refine XM_iload C dMo_go_45 rfl ?_
      refine XM_iadd C dMo_go_47 ?_
      obtain ⟨q29, hR⟩ := o_if hR
      refine XM_iald (k := 10) (n := 36) C rfl (xin_vp q29) dMo_go_48 ?_
      refine XM_ior C dMo_go_49 ?_
      obtain ⟨r30, hr30, hR⟩ := o_bind hR
      refine XM_callVv (As := [.int ((r26.2.1 10 (Int32.toNatClampNeg ((((12 : Int32)) * (x1)) + (x2)))) ||| (r26.2.1 10 (Int32.toNatClampNeg ((((12 : Int32)) * (x3)) + (x4)))))]) (rest := []) C (Mo_setNull_c hr30) wMo_205 ⟨by decide, by decide⟩ rfl rfl (Nat.le_of_ble_eq_true rfl) dMo_go_50 ?_
      refine XM_aload_n C dMo_go_53 rfl ?_
      refine XM_get (k := 38) (v := .ref (M.2.1 38)) C rfl fwMo_89 dMo_go_54 ?_
      refine XM_iload_n C dMo_go_57 rfl ?_
      refine XM_aload_n C dMo_go_58 rfl ?_
      refine XM_get (k := 8) (v := .ref (M.2.1 8)) C rfl fwMo_28 dMo_go_59 ?_
      refine XM_bipush (v := 12) C dMo_go_62 (by decide) ?_
      refine XM_iload_n C dMo_go_64 rfl ?_
      refine XM_imul C dMo_go_65 ?_
      refine XM_iload_n C dMo_go_66 rfl ?_
      refine XM_iadd C dMo_go_67 ?_
      obtain ⟨q31, hR⟩ := o_if hR
      refine XM_iald (k := 8) (n := 36) C rfl (xin_vp q31) dMo_go_68 ?_
      obtain ⟨q32, hR⟩ := o_if hR
      refine XM_iast (k := 38) (n := 3) C rfl (xin_vp q32) dMo_go_69 ?_
      obtain ⟨s33, es33, hR⟩ := b_bnd hR
      rw [← es33]
      refine XM_iload_n C dMo_go_70 rfl ?_
      refine XM_if_lt (tgt := 92) C dMo_go_71 (by decide) (fun c34 => ?_) (fun c34 => ?_)
      · rw [if_pos c34] at hR
        refine XM_aload_n C dMo_go_92 rfl ?_
        refine XM_iload C dMo_go_93 rfl ?_
        obtain ⟨r35, hr35, hR⟩ := o_bind hR
        refine XM_callVv (As := [.int (x5)]) (rest := []) C (Mo_arrive_c hr35) wMo_208 ⟨by decide, by decide⟩ rfl rfl (Nat.le_of_ble_eq_true rfl) dMo_go_95 ?_
        have hR := Option.some.inj hR
        subst hR
        exact XM_vret C hr dMo_go_98 rfl rfl rfl
      · rw [if_neg c34] at hR
        refine XM_aload_n C dMo_go_74 rfl ?_
        refine XM_get (k := 38) (v := .ref (M.2.1 38)) C rfl fwMo_89 dMo_go_75 ?_
        refine XM_iload_n C dMo_go_78 rfl ?_
        refine XM_aload_n C dMo_go_79 rfl ?_
        refine XM_get (k := 8) (v := .ref (M.2.1 8)) C rfl fwMo_28 dMo_go_80 ?_
        refine XM_bipush (v := 12) C dMo_go_83 (by decide) ?_
        refine XM_iload_n C dMo_go_85 rfl ?_
        refine XM_imul C dMo_go_86 ?_
        refine XM_iload C dMo_go_87 rfl ?_
        refine XM_iadd C dMo_go_89 ?_
        obtain ⟨q36, hR⟩ := o_if hR
        refine XM_iald (k := 8) (n := 36) C rfl (xin_vp q36) dMo_go_90 ?_
        obtain ⟨q37, hR⟩ := o_if hR
        refine XM_iast (k := 38) (n := 3) C rfl (xin_vp q37) dMo_go_91 ?_
        obtain ⟨s38, es38, hR⟩ := b_bnd hR
        rw [← es38]
        refine XM_aload_n C dMo_go_92 rfl ?_
        refine XM_iload C dMo_go_93 rfl ?_
        obtain ⟨r39, hr39, hR⟩ := o_bind hR
        refine XM_callVv (As := [.int (x5)]) (rest := []) C (Mo_arrive_c hr39) wMo_208 ⟨by decide, by decide⟩ rfl rfl (Nat.le_of_ble_eq_true rfl) dMo_go_95 ?_
        have hR := Option.some.inj hR
        subst hR
        exact XM_vret C hr dMo_go_98 rfl rfl rfl
    · rw [if_neg c28] at hR
      refine XM_iconst (v := 0) C dMo_go_33 rfl ?_
      refine XM_goto (tgt := 49) C dMo_go_34 (by decide) ?_
      refine XM_ior C dMo_go_49 ?_
      obtain ⟨r40, hr40, hR⟩ := o_bind hR
      refine XM_callVv (As := [.int ((r26.2.1 10 (Int32.toNatClampNeg ((((12 : Int32)) * (x1)) + (x2)))) ||| ((0 : Int32)))]) (rest := []) C (Mo_setNull_c hr40) wMo_205 ⟨by decide, by decide⟩ rfl rfl (Nat.le_of_ble_eq_true rfl) dMo_go_50 ?_
      refine XM_aload_n C dMo_go_53 rfl ?_
      refine XM_get (k := 38) (v := .ref (M.2.1 38)) C rfl fwMo_89 dMo_go_54 ?_
      refine XM_iload_n C dMo_go_57 rfl ?_
      refine XM_aload_n C dMo_go_58 rfl ?_
      refine XM_get (k := 8) (v := .ref (M.2.1 8)) C rfl fwMo_28 dMo_go_59 ?_
      refine XM_bipush (v := 12) C dMo_go_62 (by decide) ?_
      refine XM_iload_n C dMo_go_64 rfl ?_
      refine XM_imul C dMo_go_65 ?_
      refine XM_iload_n C dMo_go_66 rfl ?_
      refine XM_iadd C dMo_go_67 ?_
      obtain ⟨q41, hR⟩ := o_if hR
      refine XM_iald (k := 8) (n := 36) C rfl (xin_vp q41) dMo_go_68 ?_
      obtain ⟨q42, hR⟩ := o_if hR
      refine XM_iast (k := 38) (n := 3) C rfl (xin_vp q42) dMo_go_69 ?_
      obtain ⟨s43, es43, hR⟩ := b_bnd hR
      rw [← es43]
      refine XM_iload_n C dMo_go_70 rfl ?_
      refine XM_if_lt (tgt := 92) C dMo_go_71 (by decide) (fun c44 => ?_) (fun c44 => ?_)
      · rw [if_pos c44] at hR
        refine XM_aload_n C dMo_go_92 rfl ?_
        refine XM_iload C dMo_go_93 rfl ?_
        obtain ⟨r45, hr45, hR⟩ := o_bind hR
        refine XM_callVv (As := [.int (x5)]) (rest := []) C (Mo_arrive_c hr45) wMo_208 ⟨by decide, by decide⟩ rfl rfl (Nat.le_of_ble_eq_true rfl) dMo_go_95 ?_
        have hR := Option.some.inj hR
        subst hR
        exact XM_vret C hr dMo_go_98 rfl rfl rfl
      · rw [if_neg c44] at hR
        refine XM_aload_n C dMo_go_74 rfl ?_
        refine XM_get (k := 38) (v := .ref (M.2.1 38)) C rfl fwMo_89 dMo_go_75 ?_
        refine XM_iload_n C dMo_go_78 rfl ?_
        refine XM_aload_n C dMo_go_79 rfl ?_
        refine XM_get (k := 8) (v := .ref (M.2.1 8)) C rfl fwMo_28 dMo_go_80 ?_
        refine XM_bipush (v := 12) C dMo_go_83 (by decide) ?_
        refine XM_iload_n C dMo_go_85 rfl ?_
        refine XM_imul C dMo_go_86 ?_
        refine XM_iload C dMo_go_87 rfl ?_
        refine XM_iadd C dMo_go_89 ?_
        obtain ⟨q46, hR⟩ := o_if hR
        refine XM_iald (k := 8) (n := 36) C rfl (xin_vp q46) dMo_go_90 ?_
        obtain ⟨q47, hR⟩ := o_if hR
        refine XM_iast (k := 38) (n := 3) C rfl (xin_vp q47) dMo_go_91 ?_
        obtain ⟨s48, es48, hR⟩ := b_bnd hR
        rw [← es48]
        refine XM_aload_n C dMo_go_92 rfl ?_
        refine XM_iload C dMo_go_93 rfl ?_
        obtain ⟨r49, hr49, hR⟩ := o_bind hR
        refine XM_callVv (As := [.int (x5)]) (rest := []) C (Mo_arrive_c hr49) wMo_208 ⟨by decide, by decide⟩ rfl rfl (Nat.le_of_ble_eq_true rfl) dMo_go_95 ?_
        have hR := Option.some.inj hR
        subst hR
        exact XM_vret C hr dMo_go_98 rfl rfl rfl
theorem Mo_go_c {l : Launch} {G : xG} {B : Nat} {M : xM} {n : Nat} {x1 x2 x3 x4 x5 : Int32} {σ : mS} {τ : mL} {R : Int32 × mS × mL} (hR : Mo_go_f n x1 x2 x3 x4 x5 σ τ = some R) : mCon l yMo_go cMo_go 6 none 6 135 G B M [.ref M.1, .int x1, .int x2, .int x3, .int x4, .int x5] σ τ none R.2.1 R.2.2 := mCon.of (by decide) (Nat.le_of_ble_eq_true rfl) (fun F e C hr => XM_sub (lv' := [(0, .ref (M.1)), (1, .int (x1)), (2, .int (x2)), (3, .int (x3)), (4, .int (x4)), (5, .int (x5))]) [0, 1, 2, 3, 4, 5] rfl (Mo_go_x C hr hR))
def Mo_tryMove_t0 (f : Nat → Int32 → Int32 → Int32 → Int32 → Int32 → Int32 → Int32 → mS → mL → Option (Int32 × mS × mL)) (n : Nat) (x1 : Int32) (x2 : Int32) (x3 : Int32) (x4 : Int32) (x5 : Int32) (x6 : Int32) (x7 : Int32) (σ : mS) (τ : mL) : Option (Int32 × mS × mL) := f 3 (x1) (x2) (x3) (x4) (x5) ((0 : Int32)) 0 σ τ
def Mo_tryMove_t3 (f : Nat → Int32 → Int32 → Int32 → Int32 → Int32 → Int32 → Int32 → mS → mL → Option (Int32 × mS × mL)) (n : Nat) (x1 : Int32) (x2 : Int32) (x3 : Int32) (x4 : Int32) (x5 : Int32) (x6 : Int32) (x7 : Int32) (σ : mS) (τ : mL) : Option (Int32 × mS × mL) := (if σ 1 0 ≤ x6 then obd (Mo_showZone_f n 0 (x1) 0 σ τ) (fun r2 => obd (Mo_go_f n (x2) (x3) (x4) (x5) ((0 : Int32)) r2.2.1 r2.2.2) (fun r3 => (if r3.2.1 20 0 = 0 then (if r3.2.1 17 0 = 0 then bnd (su r3.2.1 40 0 ((r3.2.1 40 0) + ((1 : Int32)))) (fun s6 => obd (Mo_isSeen_f n 0 0 0 0 s6 r3.2.2) (fun r7 => (if r7.1 = 0 then (if r7.2.1 22 0 = (200 : Int32) then bnd (su r7.2.1 37 0 ((1 : Int32))) (fun s30 => some (0, s30, r7.2.2)) else obd (Mo_add_f n 0 (x1) 0 0 0 r7.2.1 r7.2.2) (fun r10 => (if xin (((4 : Int32)) * ((r10.2.1 22 0) - ((1 : Int32)))) 800 = true then bnd (su r10.2.1 31 (Int32.toNatClampNeg (((4 : Int32)) * ((r10.2.1 22 0) - ((1 : Int32))))) (x2)) (fun s12 => (if xin ((((4 : Int32)) * ((r10.2.1 22 0) - ((1 : Int32)))) + ((1 : Int32))) 800 = true then bnd (su s12 31 (Int32.toNatClampNeg ((((4 : Int32)) * ((r10.2.1 22 0) - ((1 : Int32)))) + ((1 : Int32)))) (x3)) (fun s14 => (if 0 ≤ x4 then (if xin ((((4 : Int32)) * ((r10.2.1 22 0) - ((1 : Int32)))) + ((2 : Int32))) 800 = true then bnd (su s14 31 (Int32.toNatClampNeg ((((4 : Int32)) * ((r10.2.1 22 0) - ((1 : Int32)))) + ((2 : Int32)))) (x4)) (fun s17 => (if 0 ≤ x4 then (if xin ((((4 : Int32)) * ((r10.2.1 22 0) - ((1 : Int32)))) + ((3 : Int32))) 800 = true then bnd (su s17 31 (Int32.toNatClampNeg ((((4 : Int32)) * ((r10.2.1 22 0) - ((1 : Int32)))) + ((3 : Int32)))) (x5)) (fun s20 => f 199 (x1) (x2) (x3) (x4) (x5) ((r10.2.1 22 0) - ((1 : Int32))) ((0 : Int32)) s20 r10.2.2) else none) else (if xin ((((4 : Int32)) * ((r10.2.1 22 0) - ((1 : Int32)))) + ((3 : Int32))) 800 = true then bnd (su s17 31 (Int32.toNatClampNeg ((((4 : Int32)) * ((r10.2.1 22 0) - ((1 : Int32)))) + ((3 : Int32)))) (((-2) : Int32))) (fun s22 => f 199 (x1) (x2) (x3) (x4) (x5) ((r10.2.1 22 0) - ((1 : Int32))) ((0 : Int32)) s22 r10.2.2) else none))) else none) else (if xin ((((4 : Int32)) * ((r10.2.1 22 0) - ((1 : Int32)))) + ((2 : Int32))) 800 = true then bnd (su s14 31 (Int32.toNatClampNeg ((((4 : Int32)) * ((r10.2.1 22 0) - ((1 : Int32)))) + ((2 : Int32)))) (((-2) : Int32))) (fun s24 => (if 0 ≤ x4 then (if xin ((((4 : Int32)) * ((r10.2.1 22 0) - ((1 : Int32)))) + ((3 : Int32))) 800 = true then bnd (su s24 31 (Int32.toNatClampNeg ((((4 : Int32)) * ((r10.2.1 22 0) - ((1 : Int32)))) + ((3 : Int32)))) (x5)) (fun s27 => f 199 (x1) (x2) (x3) (x4) (x5) ((r10.2.1 22 0) - ((1 : Int32))) ((0 : Int32)) s27 r10.2.2) else none) else (if xin ((((4 : Int32)) * ((r10.2.1 22 0) - ((1 : Int32)))) + ((3 : Int32))) 800 = true then bnd (su s24 31 (Int32.toNatClampNeg ((((4 : Int32)) * ((r10.2.1 22 0) - ((1 : Int32)))) + ((3 : Int32)))) (((-2) : Int32))) (fun s29 => f 199 (x1) (x2) (x3) (x4) (x5) ((r10.2.1 22 0) - ((1 : Int32))) ((0 : Int32)) s29 r10.2.2) else none))) else none))) else none)) else none))) else bnd (su r7.2.1 41 0 ((r7.2.1 41 0) + ((1 : Int32)))) (fun s31 => some (0, s31, r7.2.2))))) else some (0, r3.2.1, r3.2.2)) else obd (Mo_let_f n 0 0 0 0 0 r3.2.1 r3.2.2) (fun r32 => (if r32.2.1 17 0 = 0 then bnd (su r32.2.1 40 0 ((r32.2.1 40 0) + ((1 : Int32)))) (fun s34 => obd (Mo_isSeen_f n 0 0 0 0 s34 r32.2.2) (fun r35 => (if r35.1 = 0 then (if r35.2.1 22 0 = (200 : Int32) then bnd (su r35.2.1 37 0 ((1 : Int32))) (fun s58 => some (0, s58, r35.2.2)) else obd (Mo_add_f n 0 (x1) 0 0 0 r35.2.1 r35.2.2) (fun r38 => (if xin (((4 : Int32)) * ((r38.2.1 22 0) - ((1 : Int32)))) 800 = true then bnd (su r38.2.1 31 (Int32.toNatClampNeg (((4 : Int32)) * ((r38.2.1 22 0) - ((1 : Int32))))) (x2)) (fun s40 => (if xin ((((4 : Int32)) * ((r38.2.1 22 0) - ((1 : Int32)))) + ((1 : Int32))) 800 = true then bnd (su s40 31 (Int32.toNatClampNeg ((((4 : Int32)) * ((r38.2.1 22 0) - ((1 : Int32)))) + ((1 : Int32)))) (x3)) (fun s42 => (if 0 ≤ x4 then (if xin ((((4 : Int32)) * ((r38.2.1 22 0) - ((1 : Int32)))) + ((2 : Int32))) 800 = true then bnd (su s42 31 (Int32.toNatClampNeg ((((4 : Int32)) * ((r38.2.1 22 0) - ((1 : Int32)))) + ((2 : Int32)))) (x4)) (fun s45 => (if 0 ≤ x4 then (if xin ((((4 : Int32)) * ((r38.2.1 22 0) - ((1 : Int32)))) + ((3 : Int32))) 800 = true then bnd (su s45 31 (Int32.toNatClampNeg ((((4 : Int32)) * ((r38.2.1 22 0) - ((1 : Int32)))) + ((3 : Int32)))) (x5)) (fun s48 => f 199 (x1) (x2) (x3) (x4) (x5) ((r38.2.1 22 0) - ((1 : Int32))) ((0 : Int32)) s48 r38.2.2) else none) else (if xin ((((4 : Int32)) * ((r38.2.1 22 0) - ((1 : Int32)))) + ((3 : Int32))) 800 = true then bnd (su s45 31 (Int32.toNatClampNeg ((((4 : Int32)) * ((r38.2.1 22 0) - ((1 : Int32)))) + ((3 : Int32)))) (((-2) : Int32))) (fun s50 => f 199 (x1) (x2) (x3) (x4) (x5) ((r38.2.1 22 0) - ((1 : Int32))) ((0 : Int32)) s50 r38.2.2) else none))) else none) else (if xin ((((4 : Int32)) * ((r38.2.1 22 0) - ((1 : Int32)))) + ((2 : Int32))) 800 = true then bnd (su s42 31 (Int32.toNatClampNeg ((((4 : Int32)) * ((r38.2.1 22 0) - ((1 : Int32)))) + ((2 : Int32)))) (((-2) : Int32))) (fun s52 => (if 0 ≤ x4 then (if xin ((((4 : Int32)) * ((r38.2.1 22 0) - ((1 : Int32)))) + ((3 : Int32))) 800 = true then bnd (su s52 31 (Int32.toNatClampNeg ((((4 : Int32)) * ((r38.2.1 22 0) - ((1 : Int32)))) + ((3 : Int32)))) (x5)) (fun s55 => f 199 (x1) (x2) (x3) (x4) (x5) ((r38.2.1 22 0) - ((1 : Int32))) ((0 : Int32)) s55 r38.2.2) else none) else (if xin ((((4 : Int32)) * ((r38.2.1 22 0) - ((1 : Int32)))) + ((3 : Int32))) 800 = true then bnd (su s52 31 (Int32.toNatClampNeg ((((4 : Int32)) * ((r38.2.1 22 0) - ((1 : Int32)))) + ((3 : Int32)))) (((-2) : Int32))) (fun s57 => f 199 (x1) (x2) (x3) (x4) (x5) ((r38.2.1 22 0) - ((1 : Int32))) ((0 : Int32)) s57 r38.2.2) else none))) else none))) else none)) else none))) else bnd (su r35.2.1 41 0 ((r35.2.1 41 0) + ((1 : Int32)))) (fun s59 => some (0, s59, r35.2.2))))) else some (0, r32.2.1, r32.2.2)))))) else (if xin ((((3 : Int32)) * (x1)) + (x6)) 600 = true then (if xin (x6) 3 = true then bnd (su σ 38 (Int32.toNatClampNeg (x6)) (σ 24 (Int32.toNatClampNeg ((((3 : Int32)) * (x1)) + (x6))))) (fun s62 => f 3 (x1) (x2) (x3) (x4) (x5) (x6 + 1) 0 s62 τ) else none) else none))
def Mo_tryMove_t199 (f : Nat → Int32 → Int32 → Int32 → Int32 → Int32 → Int32 → Int32 → mS → mL → Option (Int32 × mS × mL)) (n : Nat) (x1 : Int32) (x2 : Int32) (x3 : Int32) (x4 : Int32) (x5 : Int32) (x6 : Int32) (x7 : Int32) (σ : mS) (τ : mL) : Option (Int32 × mS × mL) := (if σ 1 0 ≤ x7 then bnd (su σ 16 0 ((5 : Int32))) (fun s64 => bnd (su s64 17 0 ((0 : Int32))) (fun s65 => f 245 (x1) (x2) (x3) (x4) (x5) (x6) ((0 : Int32)) s65 τ)) else (if xin ((((3 : Int32)) * (x1)) + (x7)) 600 = true then (if xin (x7) 3 = true then bnd (su σ 38 (Int32.toNatClampNeg (x7)) (σ 24 (Int32.toNatClampNeg ((((3 : Int32)) * (x1)) + (x7))))) (fun s68 => f 199 (x1) (x2) (x3) (x4) (x5) (x6) (x7 + 1) s68 τ) else none) else none))
def Mo_tryMove_t245 (f : Nat → Int32 → Int32 → Int32 → Int32 → Int32 → Int32 → Int32 → mS → mL → Option (Int32 × mS × mL)) (n : Nat) (x1 : Int32) (x2 : Int32) (x3 : Int32) (x4 : Int32) (x5 : Int32) (x6 : Int32) (x7 : Int32) (σ : mS) (τ : mL) : Option (Int32 × mS × mL) := (if (25 : Int32) ≤ x7 then obd (Mo_go_f n (x2) (x3) (x4) (x5) ((1 : Int32)) σ τ) (fun r70 => obd (Mo_keepExact_f n 0 (x6) 0 r70.2.1 r70.2.2) (fun r71 => some (0, r71.2.1, r71.2.2))) else (if xin ((((25 : Int32)) * (x1)) + (x7)) 5000 = true then (if xin (x7) 25 = true then bnd (su σ 15 (Int32.toNatClampNeg (x7)) (σ 26 (Int32.toNatClampNeg ((((25 : Int32)) * (x1)) + (x7))))) (fun s74 => f 245 (x1) (x2) (x3) (x4) (x5) (x6) (x7 + 1) s74 τ) else none) else none))
def Mo_tryMove_f : Nat → Nat → Int32 → Int32 → Int32 → Int32 → Int32 → Int32 → Int32 → mS → mL → Option (Int32 × mS × mL)
  | 0 => fun _ _ _ _ _ _ _ _ _ _ => none
  | n + 1 => fun p x1 x2 x3 x4 x5 x6 x7 σ τ => if p = 0 then Mo_tryMove_t0 (Mo_tryMove_f n) n x1 x2 x3 x4 x5 x6 x7 σ τ else if p = 3 then Mo_tryMove_t3 (Mo_tryMove_f n) n x1 x2 x3 x4 x5 x6 x7 σ τ else if p = 199 then Mo_tryMove_t199 (Mo_tryMove_f n) n x1 x2 x3 x4 x5 x6 x7 σ τ else if p = 245 then Mo_tryMove_t245 (Mo_tryMove_f n) n x1 x2 x3 x4 x5 x6 x7 σ τ else none
theorem Mo_tryMove_e0 (n : Nat) (x1 : Int32) (x2 : Int32) (x3 : Int32) (x4 : Int32) (x5 : Int32) (x6 : Int32) (x7 : Int32) (σ : mS) (τ : mL) : Mo_tryMove_f (n + 1) 0 x1 x2 x3 x4 x5 x6 x7 σ τ = Mo_tryMove_t0 (Mo_tryMove_f n) n x1 x2 x3 x4 x5 x6 x7 σ τ := by
  show (if 0 = 0 then Mo_tryMove_t0 (Mo_tryMove_f n) n x1 x2 x3 x4 x5 x6 x7 σ τ else if 0 = 3 then Mo_tryMove_t3 (Mo_tryMove_f n) n x1 x2 x3 x4 x5 x6 x7 σ τ else if 0 = 199 then Mo_tryMove_t199 (Mo_tryMove_f n) n x1 x2 x3 x4 x5 x6 x7 σ τ else if 0 = 245 then Mo_tryMove_t245 (Mo_tryMove_f n) n x1 x2 x3 x4 x5 x6 x7 σ τ else none) = _
  rw [if_pos rfl]
theorem Mo_tryMove_e3 (n : Nat) (x1 : Int32) (x2 : Int32) (x3 : Int32) (x4 : Int32) (x5 : Int32) (x6 : Int32) (x7 : Int32) (σ : mS) (τ : mL) : Mo_tryMove_f (n + 1) 3 x1 x2 x3 x4 x5 x6 x7 σ τ = Mo_tryMove_t3 (Mo_tryMove_f n) n x1 x2 x3 x4 x5 x6 x7 σ τ := by
  show (if 3 = 0 then Mo_tryMove_t0 (Mo_tryMove_f n) n x1 x2 x3 x4 x5 x6 x7 σ τ else if 3 = 3 then Mo_tryMove_t3 (Mo_tryMove_f n) n x1 x2 x3 x4 x5 x6 x7 σ τ else if 3 = 199 then Mo_tryMove_t199 (Mo_tryMove_f n) n x1 x2 x3 x4 x5 x6 x7 σ τ else if 3 = 245 then Mo_tryMove_t245 (Mo_tryMove_f n) n x1 x2 x3 x4 x5 x6 x7 σ τ else none) = _
  rw [if_neg (by decide), if_pos rfl]
theorem Mo_tryMove_e199 (n : Nat) (x1 : Int32) (x2 : Int32) (x3 : Int32) (x4 : Int32) (x5 : Int32) (x6 : Int32) (x7 : Int32) (σ : mS) (τ : mL) : Mo_tryMove_f (n + 1) 199 x1 x2 x3 x4 x5 x6 x7 σ τ = Mo_tryMove_t199 (Mo_tryMove_f n) n x1 x2 x3 x4 x5 x6 x7 σ τ := by
  show (if 199 = 0 then Mo_tryMove_t0 (Mo_tryMove_f n) n x1 x2 x3 x4 x5 x6 x7 σ τ else if 199 = 3 then Mo_tryMove_t3 (Mo_tryMove_f n) n x1 x2 x3 x4 x5 x6 x7 σ τ else if 199 = 199 then Mo_tryMove_t199 (Mo_tryMove_f n) n x1 x2 x3 x4 x5 x6 x7 σ τ else if 199 = 245 then Mo_tryMove_t245 (Mo_tryMove_f n) n x1 x2 x3 x4 x5 x6 x7 σ τ else none) = _
  rw [if_neg (by decide), if_neg (by decide), if_pos rfl]
theorem Mo_tryMove_e245 (n : Nat) (x1 : Int32) (x2 : Int32) (x3 : Int32) (x4 : Int32) (x5 : Int32) (x6 : Int32) (x7 : Int32) (σ : mS) (τ : mL) : Mo_tryMove_f (n + 1) 245 x1 x2 x3 x4 x5 x6 x7 σ τ = Mo_tryMove_t245 (Mo_tryMove_f n) n x1 x2 x3 x4 x5 x6 x7 σ τ := by
  show (if 245 = 0 then Mo_tryMove_t0 (Mo_tryMove_f n) n x1 x2 x3 x4 x5 x6 x7 σ τ else if 245 = 3 then Mo_tryMove_t3 (Mo_tryMove_f n) n x1 x2 x3 x4 x5 x6 x7 σ τ else if 245 = 199 then Mo_tryMove_t199 (Mo_tryMove_f n) n x1 x2 x3 x4 x5 x6 x7 σ τ else if 245 = 245 then Mo_tryMove_t245 (Mo_tryMove_f n) n x1 x2 x3 x4 x5 x6 x7 σ τ else none) = _
  rw [if_neg (by decide), if_neg (by decide), if_neg (by decide), if_pos rfl]
set_option maxRecDepth 100000 in
set_option maxHeartbeats 8000000 in
theorem Mo_tryMove_x {F : xF} {G : xG} {B : Nat} {M : xM} (C : xC F G B cMo_tryMove RMo 8 7 160 0 0) (hr : (xFM F).sig.returnType = none) : ∀ (n : Nat) (x1 : Int32) (x2 : Int32) (x3 : Int32) (x4 : Int32) (x5 : Int32) (x6 : Int32) (x7 : Int32) (σ : mS) (τ : mL) (R : Int32 × mS × mL), (Mo_tryMove_f n 0 x1 x2 x3 x4 x5 x6 x7 σ τ = some R → XM F G B (xZ F G B (mP M none R.2.1 R.2.2) 0 0) 8 M σ τ 0 [(0, .ref (M.1)), (1, .int (x1)), (2, .int (x2)), (3, .int (x3)), (4, .int (x4)), (5, .int (x5))] []) ∧ (Mo_tryMove_f n 3 x1 x2 x3 x4 x5 x6 x7 σ τ = some R → XM F G B (xZ F G B (mP M none R.2.1 R.2.2) 0 0) 8 M σ τ 3 [(0, .ref (M.1)), (1, .int (x1)), (2, .int (x2)), (3, .int (x3)), (4, .int (x4)), (5, .int (x5)), (6, .int (x6))] []) ∧ (Mo_tryMove_f n 199 x1 x2 x3 x4 x5 x6 x7 σ τ = some R → XM F G B (xZ F G B (mP M none R.2.1 R.2.2) 0 0) 8 M σ τ 199 [(0, .ref (M.1)), (1, .int (x1)), (2, .int (x2)), (3, .int (x3)), (4, .int (x4)), (5, .int (x5)), (6, .int (x6)), (7, .int (x7))] []) ∧ (Mo_tryMove_f n 245 x1 x2 x3 x4 x5 x6 x7 σ τ = some R → XM F G B (xZ F G B (mP M none R.2.1 R.2.2) 0 0) 8 M σ τ 245 [(0, .ref (M.1)), (1, .int (x1)), (2, .int (x2)), (3, .int (x3)), (4, .int (x4)), (5, .int (x5)), (6, .int (x6)), (7, .int (x7))] []) := by
  intro n
  induction n with
  | zero => exact fun _ _ _ _ _ _ _ _ _ _ => ⟨(fun hR => nomatch (show (none : Option _) = some _ from hR)), (fun hR => nomatch (show (none : Option _) = some _ from hR)), (fun hR => nomatch (show (none : Option _) = some _ from hR)), (fun hR => nomatch (show (none : Option _) = some _ from hR))⟩
  | succ n ih =>
    intro x1 x2 x3 x4 x5 x6 x7 σ τ R
    refine ⟨fun hR => ?_, fun hR => ?_, fun hR => ?_, fun hR => ?_⟩
    · rw [Mo_tryMove_e0] at hR
      unfold Mo_tryMove_t0 at hR
      refine XM_iconst (v := 0) C dMo_tryMove_0 rfl ?_
      refine XM_istore (lv' := [(6, .int ((0 : Int32))), (0, .ref (M.1)), (1, .int (x1)), (2, .int (x2)), (3, .int (x3)), (4, .int (x4)), (5, .int (x5))]) C dMo_tryMove_1 (by decide) rfl ?_
      refine XM_sub (lv' := [(0, .ref (M.1)), (1, .int (x1)), (2, .int (x2)), (3, .int (x3)), (4, .int (x4)), (5, .int (x5)), (6, .int ((0 : Int32)))]) [1, 2, 3, 4, 5, 6, 0] rfl ?_
      exact (ih (x1) (x2) (x3) (x4) (x5) ((0 : Int32)) 0 _ _ _).2.1 hR
    · rw [Mo_tryMove_e3] at hR
      unfold Mo_tryMove_t3 at hR
      refine XM_iload C dMo_tryMove_3 rfl ?_
      refine XM_aload_n C dMo_tryMove_5 rfl ?_
      refine XM_get (k := 1) (v := .int (σ 1 0)) C rfl fwMo_128 dMo_tryMove_6 ?_
      refine XM_icmp_ge (tgt := 36) C dMo_tryMove_9 (by decide) (fun c1 => ?_) (fun c1 => ?_)
      · rw [if_pos c1] at hR
        refine XM_aload_n C dMo_tryMove_36 rfl ?_
        refine XM_iload_n C dMo_tryMove_37 rfl ?_
        obtain ⟨r2, hr2, hR⟩ := o_bind hR
        refine XM_callVv (As := [.int (x1)]) (rest := []) C (Mo_showZone_c hr2) wMo_212 ⟨by decide, by decide⟩ rfl rfl (Nat.le_of_ble_eq_true rfl) dMo_tryMove_38 ?_
        refine XM_aload_n C dMo_tryMove_41 rfl ?_
        refine XM_iload_n C dMo_tryMove_42 rfl ?_
        refine XM_iload_n C dMo_tryMove_43 rfl ?_
        refine XM_iload C dMo_tryMove_44 rfl ?_
        refine XM_iload C dMo_tryMove_46 rfl ?_
        refine XM_iconst (v := 0) C dMo_tryMove_48 rfl ?_
        obtain ⟨r3, hr3, hR⟩ := o_bind hR
        refine XM_callVv (As := [.int (x2), .int (x3), .int (x4), .int (x5), .int ((0 : Int32))]) (rest := []) C (Mo_go_c hr3) wMo_215 ⟨by decide, by decide⟩ rfl rfl (Nat.le_of_ble_eq_true rfl) dMo_tryMove_49 ?_
        refine XM_aload_n C dMo_tryMove_52 rfl ?_
        refine XM_get (k := 20) (v := .int (r3.2.1 20 0)) C rfl fwMo_192 dMo_tryMove_53 ?_
        refine XM_if_eq (tgt := 63) C dMo_tryMove_56 (by decide) (fun c4 => ?_) (fun c4 => ?_)
        · rw [if_pos c4] at hR
          refine XM_aload_n C dMo_tryMove_63 rfl ?_
          refine XM_get (k := 17) (v := .int (r3.2.1 17 0)) C rfl fwMo_167 dMo_tryMove_64 ?_
          refine XM_if_eq (tgt := 71) C dMo_tryMove_67 (by decide) (fun c5 => ?_) (fun c5 => ?_)
          · rw [if_pos c5] at hR
            refine XM_aload_n C dMo_tryMove_71 rfl ?_
            refine XM_dup C dMo_tryMove_72 rfl ?_
            refine XM_get (k := 40) (v := .int (r3.2.1 40 0)) C rfl fwMo_222 dMo_tryMove_73 ?_
            refine XM_iconst (v := 1) C dMo_tryMove_76 rfl ?_
            refine XM_iadd C dMo_tryMove_77 ?_
            refine XM_put (k := 40) C rfl fwMo_222 rfl rfl rfl dMo_tryMove_78 ?_
            obtain ⟨s6, es6, hR⟩ := b_bnd hR
            rw [← es6]
            refine XM_aload_n C dMo_tryMove_81 rfl ?_
            obtain ⟨r7, hr7, hR⟩ := o_bind hR
            refine XM_callVi (As := []) (rest := []) C (Mo_isSeen_c hr7) wMo_225 ⟨by decide, by decide⟩ rfl rfl (Nat.le_of_ble_eq_true rfl) dMo_tryMove_82 ?_
            refine XM_if_eq (tgt := 99) C dMo_tryMove_85 (by decide) (fun c8 => ?_) (fun c8 => ?_)
            · rw [if_pos c8] at hR
              refine XM_aload_n C dMo_tryMove_99 rfl ?_
              refine XM_get (k := 22) (v := .int (r7.2.1 22 0)) C rfl fwMo_199 dMo_tryMove_100 ?_
              refine XM_sipush (v := 200) C dMo_tryMove_103 (by decide) ?_
              refine XM_icmp_ne (tgt := 115) C dMo_tryMove_106 (by decide) (fun c9 => ?_) (fun c9 => ?_)
              · rw [if_neg c9] at hR
                refine XM_aload_n C dMo_tryMove_115 rfl ?_
                refine XM_iload_n C dMo_tryMove_116 rfl ?_
                obtain ⟨r10, hr10, hR⟩ := o_bind hR
                refine XM_callVv (As := [.int (x1)]) (rest := []) C (Mo_add_c hr10) wMo_235 ⟨by decide, by decide⟩ rfl rfl (Nat.le_of_ble_eq_true rfl) dMo_tryMove_117 ?_
                refine XM_aload_n C dMo_tryMove_120 rfl ?_
                refine XM_get (k := 22) (v := .int (r10.2.1 22 0)) C rfl fwMo_199 dMo_tryMove_121 ?_
                refine XM_iconst (v := 1) C dMo_tryMove_124 rfl ?_
                refine XM_isub C dMo_tryMove_125 ?_
                refine XM_istore (lv' := [(6, .int ((r10.2.1 22 0) - ((1 : Int32)))), (0, .ref (M.1)), (1, .int (x1)), (2, .int (x2)), (3, .int (x3)), (4, .int (x4)), (5, .int (x5))]) C dMo_tryMove_126 (by decide) rfl ?_
                refine XM_aload_n C dMo_tryMove_128 rfl ?_
                refine XM_get (k := 31) (v := .ref (M.2.1 31)) C rfl fwMo_79 dMo_tryMove_129 ?_
                refine XM_iconst (v := 4) C dMo_tryMove_132 rfl ?_
                refine XM_iload C dMo_tryMove_133 rfl ?_
                refine XM_imul C dMo_tryMove_135 ?_
                refine XM_iload_n C dMo_tryMove_136 rfl ?_
                obtain ⟨q11, hR⟩ := o_if hR
                refine XM_iast (k := 31) (n := 800) C rfl (xin_vp q11) dMo_tryMove_137 ?_
                obtain ⟨s12, es12, hR⟩ := b_bnd hR
                rw [← es12]
                refine XM_aload_n C dMo_tryMove_138 rfl ?_
                refine XM_get (k := 31) (v := .ref (M.2.1 31)) C rfl fwMo_79 dMo_tryMove_139 ?_
                refine XM_iconst (v := 4) C dMo_tryMove_142 rfl ?_
                refine XM_iload C dMo_tryMove_143 rfl ?_
                refine XM_imul C dMo_tryMove_145 ?_
                refine XM_iconst (v := 1) C dMo_tryMove_146 rfl ?_
                refine XM_iadd C dMo_tryMove_147 ?_
                refine XM_iload_n C dMo_tryMove_148 rfl ?_
                obtain ⟨q13, hR⟩ := o_if hR
                refine XM_iast (k := 31) (n := 800) C rfl (xin_vp q13) dMo_tryMove_149 ?_
                obtain ⟨s14, es14, hR⟩ := b_bnd hR
                rw [← es14]
                refine XM_aload_n C dMo_tryMove_150 rfl ?_
                refine XM_get (k := 31) (v := .ref (M.2.1 31)) C rfl fwMo_79 dMo_tryMove_151 ?_
                refine XM_iconst (v := 4) C dMo_tryMove_154 rfl ?_
                refine XM_iload C dMo_tryMove_155 rfl ?_
                refine XM_imul C dMo_tryMove_157 ?_
                refine XM_iconst (v := 2) C dMo_tryMove_158 rfl ?_
                refine XM_iadd C dMo_tryMove_159 ?_
                refine XM_iload C dMo_tryMove_160 rfl ?_
                refine XM_if_ge (tgt := 170) C dMo_tryMove_162 (by decide) (fun c15 => ?_) (fun c15 => ?_)
                · rw [if_pos c15] at hR
                  refine XM_iload C dMo_tryMove_170 rfl ?_
                  obtain ⟨q16, hR⟩ := o_if hR
                  refine XM_iast (k := 31) (n := 800) C rfl (xin_vp q16) dMo_tryMove_172 ?_
                  obtain ⟨s17, es17, hR⟩ := b_bnd hR
                  rw [← es17]
                  refine XM_aload_n C dMo_tryMove_173 rfl ?_
                  refine XM_get (k := 31) (v := .ref (M.2.1 31)) C rfl fwMo_79 dMo_tryMove_174 ?_
                  refine XM_iconst (v := 4) C dMo_tryMove_177 rfl ?_
                  refine XM_iload C dMo_tryMove_178 rfl ?_
                  refine XM_imul C dMo_tryMove_180 ?_
                  refine XM_iconst (v := 3) C dMo_tryMove_181 rfl ?_
                  refine XM_iadd C dMo_tryMove_182 ?_
                  refine XM_iload C dMo_tryMove_183 rfl ?_
                  refine XM_if_ge (tgt := 193) C dMo_tryMove_185 (by decide) (fun c18 => ?_) (fun c18 => ?_)
                  · rw [if_pos c18] at hR
                    refine XM_iload C dMo_tryMove_193 rfl ?_
                    obtain ⟨q19, hR⟩ := o_if hR
                    refine XM_iast (k := 31) (n := 800) C rfl (xin_vp q19) dMo_tryMove_195 ?_
                    obtain ⟨s20, es20, hR⟩ := b_bnd hR
                    rw [← es20]
                    refine XM_iconst (v := 0) C dMo_tryMove_196 rfl ?_
                    refine XM_istore (lv' := [(7, .int ((0 : Int32))), (6, .int ((r10.2.1 22 0) - ((1 : Int32)))), (0, .ref (M.1)), (1, .int (x1)), (2, .int (x2)), (3, .int (x3)), (4, .int (x4)), (5, .int (x5))]) C dMo_tryMove_197 (by decide) rfl ?_
                    refine XM_sub (lv' := [(0, .ref (M.1)), (1, .int (x1)), (2, .int (x2)), (3, .int (x3)), (4, .int (x4)), (5, .int (x5)), (6, .int ((r10.2.1 22 0) - ((1 : Int32)))), (7, .int ((0 : Int32)))]) [2, 3, 4, 5, 6, 7, 1, 0] rfl ?_
                    exact (ih (x1) (x2) (x3) (x4) (x5) ((r10.2.1 22 0) - ((1 : Int32))) ((0 : Int32)) _ _ _).2.2.1 hR
                  · rw [if_neg c18] at hR
                    refine XM_bipush (v := (-2)) C dMo_tryMove_188 (by decide) ?_
                    refine XM_goto (tgt := 195) C dMo_tryMove_190 (by decide) ?_
                    obtain ⟨q21, hR⟩ := o_if hR
                    refine XM_iast (k := 31) (n := 800) C rfl (xin_vp q21) dMo_tryMove_195 ?_
                    obtain ⟨s22, es22, hR⟩ := b_bnd hR
                    rw [← es22]
                    refine XM_iconst (v := 0) C dMo_tryMove_196 rfl ?_
                    refine XM_istore (lv' := [(7, .int ((0 : Int32))), (6, .int ((r10.2.1 22 0) - ((1 : Int32)))), (0, .ref (M.1)), (1, .int (x1)), (2, .int (x2)), (3, .int (x3)), (4, .int (x4)), (5, .int (x5))]) C dMo_tryMove_197 (by decide) rfl ?_
                    refine XM_sub (lv' := [(0, .ref (M.1)), (1, .int (x1)), (2, .int (x2)), (3, .int (x3)), (4, .int (x4)), (5, .int (x5)), (6, .int ((r10.2.1 22 0) - ((1 : Int32)))), (7, .int ((0 : Int32)))]) [2, 3, 4, 5, 6, 7, 1, 0] rfl ?_
                    exact (ih (x1) (x2) (x3) (x4) (x5) ((r10.2.1 22 0) - ((1 : Int32))) ((0 : Int32)) _ _ _).2.2.1 hR
                · rw [if_neg c15] at hR
                  refine XM_bipush (v := (-2)) C dMo_tryMove_165 (by decide) ?_
                  refine XM_goto (tgt := 172) C dMo_tryMove_167 (by decide) ?_
                  obtain ⟨q23, hR⟩ := o_if hR
                  refine XM_iast (k := 31) (n := 800) C rfl (xin_vp q23) dMo_tryMove_172 ?_
                  obtain ⟨s24, es24, hR⟩ := b_bnd hR
                  rw [← es24]
                  refine XM_aload_n C dMo_tryMove_173 rfl ?_
                  refine XM_get (k := 31) (v := .ref (M.2.1 31)) C rfl fwMo_79 dMo_tryMove_174 ?_
                  refine XM_iconst (v := 4) C dMo_tryMove_177 rfl ?_
                  refine XM_iload C dMo_tryMove_178 rfl ?_
                  refine XM_imul C dMo_tryMove_180 ?_
                  refine XM_iconst (v := 3) C dMo_tryMove_181 rfl ?_
                  refine XM_iadd C dMo_tryMove_182 ?_
                  refine XM_iload C dMo_tryMove_183 rfl ?_
                  refine XM_if_ge (tgt := 193) C dMo_tryMove_185 (by decide) (fun c25 => ?_) (fun c25 => ?_)
                  · rw [if_pos c25] at hR
                    refine XM_iload C dMo_tryMove_193 rfl ?_
                    obtain ⟨q26, hR⟩ := o_if hR
                    refine XM_iast (k := 31) (n := 800) C rfl (xin_vp q26) dMo_tryMove_195 ?_
                    obtain ⟨s27, es27, hR⟩ := b_bnd hR
                    rw [← es27]
                    refine XM_iconst (v := 0) C dMo_tryMove_196 rfl ?_
                    refine XM_istore (lv' := [(7, .int ((0 : Int32))), (6, .int ((r10.2.1 22 0) - ((1 : Int32)))), (0, .ref (M.1)), (1, .int (x1)), (2, .int (x2)), (3, .int (x3)), (4, .int (x4)), (5, .int (x5))]) C dMo_tryMove_197 (by decide) rfl ?_
                    refine XM_sub (lv' := [(0, .ref (M.1)), (1, .int (x1)), (2, .int (x2)), (3, .int (x3)), (4, .int (x4)), (5, .int (x5)), (6, .int ((r10.2.1 22 0) - ((1 : Int32)))), (7, .int ((0 : Int32)))]) [2, 3, 4, 5, 6, 7, 1, 0] rfl ?_
                    exact (ih (x1) (x2) (x3) (x4) (x5) ((r10.2.1 22 0) - ((1 : Int32))) ((0 : Int32)) _ _ _).2.2.1 hR
                  · rw [if_neg c25] at hR
                    refine XM_bipush (v := (-2)) C dMo_tryMove_188 (by decide) ?_
                    refine XM_goto (tgt := 195) C dMo_tryMove_190 (by decide) ?_
                    obtain ⟨q28, hR⟩ := o_if hR
                    refine XM_iast (k := 31) (n := 800) C rfl (xin_vp q28) dMo_tryMove_195 ?_
                    obtain ⟨s29, es29, hR⟩ := b_bnd hR
                    rw [← es29]
                    refine XM_iconst (v := 0) C dMo_tryMove_196 rfl ?_
                    refine XM_istore (lv' := [(7, .int ((0 : Int32))), (6, .int ((r10.2.1 22 0) - ((1 : Int32)))), (0, .ref (M.1)), (1, .int (x1)), (2, .int (x2)), (3, .int (x3)), (4, .int (x4)), (5, .int (x5))]) C dMo_tryMove_197 (by decide) rfl ?_
                    refine XM_sub (lv' := [(0, .ref (M.1)), (1, .int (x1)), (2, .int (x2)), (3, .int (x3)), (4, .int (x4)), (5, .int (x5)), (6, .int ((r10.2.1 22 0) - ((1 : Int32)))), (7, .int ((0 : Int32)))]) [2, 3, 4, 5, 6, 7, 1, 0] rfl ?_
                    exact (ih (x1) (x2) (x3) (x4) (x5) ((r10.2.1 22 0) - ((1 : Int32))) ((0 : Int32)) _ _ _).2.2.1 hR
              · rw [if_pos c9] at hR
                refine XM_aload_n C dMo_tryMove_109 rfl ?_
                refine XM_iconst (v := 1) C dMo_tryMove_110 rfl ?_
                refine XM_put (k := 37) C rfl fwMo_232 rfl rfl rfl dMo_tryMove_111 ?_
                obtain ⟨s30, es30, hR⟩ := b_bnd hR
                rw [← es30]
                have hR := Option.some.inj hR
                subst hR
                exact XM_vret C hr dMo_tryMove_114 rfl rfl rfl
            · rw [if_neg c8] at hR
              refine XM_aload_n C dMo_tryMove_88 rfl ?_
              refine XM_dup C dMo_tryMove_89 rfl ?_
              refine XM_get (k := 41) (v := .int (r7.2.1 41 0)) C rfl fwMo_229 dMo_tryMove_90 ?_
              refine XM_iconst (v := 1) C dMo_tryMove_93 rfl ?_
              refine XM_iadd C dMo_tryMove_94 ?_
              refine XM_put (k := 41) C rfl fwMo_229 rfl rfl rfl dMo_tryMove_95 ?_
              obtain ⟨s31, es31, hR⟩ := b_bnd hR
              rw [← es31]
              have hR := Option.some.inj hR
              subst hR
              exact XM_vret C hr dMo_tryMove_98 rfl rfl rfl
          · rw [if_neg c5] at hR
            have hR := Option.some.inj hR
            subst hR
            exact XM_vret C hr dMo_tryMove_70 rfl rfl rfl
        · rw [if_neg c4] at hR
          refine XM_aload_n C dMo_tryMove_59 rfl ?_
          obtain ⟨r32, hr32, hR⟩ := o_bind hR
          refine XM_callVv (As := []) (rest := []) C (Mo_let_c hr32) wMo_219 ⟨by decide, by decide⟩ rfl rfl (Nat.le_of_ble_eq_true rfl) dMo_tryMove_60 ?_
          refine XM_aload_n C dMo_tryMove_63 rfl ?_
          refine XM_get (k := 17) (v := .int (r32.2.1 17 0)) C rfl fwMo_167 dMo_tryMove_64 ?_
          refine XM_if_eq (tgt := 71) C dMo_tryMove_67 (by decide) (fun c33 => ?_) (fun c33 => ?_)
          · rw [if_pos c33] at hR
            refine XM_aload_n C dMo_tryMove_71 rfl ?_
            refine XM_dup C dMo_tryMove_72 rfl ?_
            refine XM_get (k := 40) (v := .int (r32.2.1 40 0)) C rfl fwMo_222 dMo_tryMove_73 ?_
            refine XM_iconst (v := 1) C dMo_tryMove_76 rfl ?_
            refine XM_iadd C dMo_tryMove_77 ?_
            refine XM_put (k := 40) C rfl fwMo_222 rfl rfl rfl dMo_tryMove_78 ?_
            obtain ⟨s34, es34, hR⟩ := b_bnd hR
            rw [← es34]
            refine XM_aload_n C dMo_tryMove_81 rfl ?_
            obtain ⟨r35, hr35, hR⟩ := o_bind hR
            refine XM_callVi (As := []) (rest := []) C (Mo_isSeen_c hr35) wMo_225 ⟨by decide, by decide⟩ rfl rfl (Nat.le_of_ble_eq_true rfl) dMo_tryMove_82 ?_
            refine XM_if_eq (tgt := 99) C dMo_tryMove_85 (by decide) (fun c36 => ?_) (fun c36 => ?_)
            · rw [if_pos c36] at hR
              refine XM_aload_n C dMo_tryMove_99 rfl ?_
              refine XM_get (k := 22) (v := .int (r35.2.1 22 0)) C rfl fwMo_199 dMo_tryMove_100 ?_
              refine XM_sipush (v := 200) C dMo_tryMove_103 (by decide) ?_
              refine XM_icmp_ne (tgt := 115) C dMo_tryMove_106 (by decide) (fun c37 => ?_) (fun c37 => ?_)
              · rw [if_neg c37] at hR
                refine XM_aload_n C dMo_tryMove_115 rfl ?_
                refine XM_iload_n C dMo_tryMove_116 rfl ?_
                obtain ⟨r38, hr38, hR⟩ := o_bind hR
                refine XM_callVv (As := [.int (x1)]) (rest := []) C (Mo_add_c hr38) wMo_235 ⟨by decide, by decide⟩ rfl rfl (Nat.le_of_ble_eq_true rfl) dMo_tryMove_117 ?_
                refine XM_aload_n C dMo_tryMove_120 rfl ?_
                refine XM_get (k := 22) (v := .int (r38.2.1 22 0)) C rfl fwMo_199 dMo_tryMove_121 ?_
                refine XM_iconst (v := 1) C dMo_tryMove_124 rfl ?_
                refine XM_isub C dMo_tryMove_125 ?_
                refine XM_istore (lv' := [(6, .int ((r38.2.1 22 0) - ((1 : Int32)))), (0, .ref (M.1)), (1, .int (x1)), (2, .int (x2)), (3, .int (x3)), (4, .int (x4)), (5, .int (x5))]) C dMo_tryMove_126 (by decide) rfl ?_
                refine XM_aload_n C dMo_tryMove_128 rfl ?_
                refine XM_get (k := 31) (v := .ref (M.2.1 31)) C rfl fwMo_79 dMo_tryMove_129 ?_
                refine XM_iconst (v := 4) C dMo_tryMove_132 rfl ?_
                refine XM_iload C dMo_tryMove_133 rfl ?_
                refine XM_imul C dMo_tryMove_135 ?_
                refine XM_iload_n C dMo_tryMove_136 rfl ?_
                obtain ⟨q39, hR⟩ := o_if hR
                refine XM_iast (k := 31) (n := 800) C rfl (xin_vp q39) dMo_tryMove_137 ?_
                obtain ⟨s40, es40, hR⟩ := b_bnd hR
                rw [← es40]
                refine XM_aload_n C dMo_tryMove_138 rfl ?_
                refine XM_get (k := 31) (v := .ref (M.2.1 31)) C rfl fwMo_79 dMo_tryMove_139 ?_
                refine XM_iconst (v := 4) C dMo_tryMove_142 rfl ?_
                refine XM_iload C dMo_tryMove_143 rfl ?_
                refine XM_imul C dMo_tryMove_145 ?_
                refine XM_iconst (v := 1) C dMo_tryMove_146 rfl ?_
                refine XM_iadd C dMo_tryMove_147 ?_
                refine XM_iload_n C dMo_tryMove_148 rfl ?_
                obtain ⟨q41, hR⟩ := o_if hR
                refine XM_iast (k := 31) (n := 800) C rfl (xin_vp q41) dMo_tryMove_149 ?_
                obtain ⟨s42, es42, hR⟩ := b_bnd hR
                rw [← es42]
                refine XM_aload_n C dMo_tryMove_150 rfl ?_
                refine XM_get (k := 31) (v := .ref (M.2.1 31)) C rfl fwMo_79 dMo_tryMove_151 ?_
                refine XM_iconst (v := 4) C dMo_tryMove_154 rfl ?_
                refine XM_iload C dMo_tryMove_155 rfl ?_
                refine XM_imul C dMo_tryMove_157 ?_
                refine XM_iconst (v := 2) C dMo_tryMove_158 rfl ?_
                refine XM_iadd C dMo_tryMove_159 ?_
                refine XM_iload C dMo_tryMove_160 rfl ?_
                refine XM_if_ge (tgt := 170) C dMo_tryMove_162 (by decide) (fun c43 => ?_) (fun c43 => ?_)
                · rw [if_pos c43] at hR
                  refine XM_iload C dMo_tryMove_170 rfl ?_
                  obtain ⟨q44, hR⟩ := o_if hR
                  refine XM_iast (k := 31) (n := 800) C rfl (xin_vp q44) dMo_tryMove_172 ?_
                  obtain ⟨s45, es45, hR⟩ := b_bnd hR
                  rw [← es45]
                  refine XM_aload_n C dMo_tryMove_173 rfl ?_
                  refine XM_get (k := 31) (v := .ref (M.2.1 31)) C rfl fwMo_79 dMo_tryMove_174 ?_
                  refine XM_iconst (v := 4) C dMo_tryMove_177 rfl ?_
                  refine XM_iload C dMo_tryMove_178 rfl ?_
                  refine XM_imul C dMo_tryMove_180 ?_
                  refine XM_iconst (v := 3) C dMo_tryMove_181 rfl ?_
                  refine XM_iadd C dMo_tryMove_182 ?_
                  refine XM_iload C dMo_tryMove_183 rfl ?_
                  refine XM_if_ge (tgt := 193) C dMo_tryMove_185 (by decide) (fun c46 => ?_) (fun c46 => ?_)
                  · rw [if_pos c46] at hR
                    refine XM_iload C dMo_tryMove_193 rfl ?_
                    obtain ⟨q47, hR⟩ := o_if hR
                    refine XM_iast (k := 31) (n := 800) C rfl (xin_vp q47) dMo_tryMove_195 ?_
                    obtain ⟨s48, es48, hR⟩ := b_bnd hR
                    rw [← es48]
                    refine XM_iconst (v := 0) C dMo_tryMove_196 rfl ?_
                    refine XM_istore (lv' := [(7, .int ((0 : Int32))), (6, .int ((r38.2.1 22 0) - ((1 : Int32)))), (0, .ref (M.1)), (1, .int (x1)), (2, .int (x2)), (3, .int (x3)), (4, .int (x4)), (5, .int (x5))]) C dMo_tryMove_197 (by decide) rfl ?_
                    refine XM_sub (lv' := [(0, .ref (M.1)), (1, .int (x1)), (2, .int (x2)), (3, .int (x3)), (4, .int (x4)), (5, .int (x5)), (6, .int ((r38.2.1 22 0) - ((1 : Int32)))), (7, .int ((0 : Int32)))]) [2, 3, 4, 5, 6, 7, 1, 0] rfl ?_
                    exact (ih (x1) (x2) (x3) (x4) (x5) ((r38.2.1 22 0) - ((1 : Int32))) ((0 : Int32)) _ _ _).2.2.1 hR
                  · rw [if_neg c46] at hR
                    refine XM_bipush (v := (-2)) C dMo_tryMove_188 (by decide) ?_
                    refine XM_goto (tgt := 195) C dMo_tryMove_190 (by decide) ?_
                    obtain ⟨q49, hR⟩ := o_if hR
                    refine XM_iast (k := 31) (n := 800) C rfl (xin_vp q49) dMo_tryMove_195 ?_
                    obtain ⟨s50, es50, hR⟩ := b_bnd hR
                    rw [← es50]
                    refine XM_iconst (v := 0) C dMo_tryMove_196 rfl ?_
                    refine XM_istore (lv' := [(7, .int ((0 : Int32))), (6, .int ((r38.2.1 22 0) - ((1 : Int32)))), (0, .ref (M.1)), (1, .int (x1)), (2, .int (x2)), (3, .int (x3)), (4, .int (x4)), (5, .int (x5))]) C dMo_tryMove_197 (by decide) rfl ?_
                    refine XM_sub (lv' := [(0, .ref (M.1)), (1, .int (x1)), (2, .int (x2)), (3, .int (x3)), (4, .int (x4)), (5, .int (x5)), (6, .int ((r38.2.1 22 0) - ((1 : Int32)))), (7, .int ((0 : Int32)))]) [2, 3, 4, 5, 6, 7, 1, 0] rfl ?_
                    exact (ih (x1) (x2) (x3) (x4) (x5) ((r38.2.1 22 0) - ((1 : Int32))) ((0 : Int32)) _ _ _).2.2.1 hR
                · rw [if_neg c43] at hR
                  refine XM_bipush (v := (-2)) C dMo_tryMove_165 (by decide) ?_
                  refine XM_goto (tgt := 172) C dMo_tryMove_167 (by decide) ?_
                  obtain ⟨q51, hR⟩ := o_if hR
                  refine XM_iast (k := 31) (n := 800) C rfl (xin_vp q51) dMo_tryMove_172 ?_
                  obtain ⟨s52, es52, hR⟩ := b_bnd hR
                  rw [← es52]
                  refine XM_aload_n C dMo_tryMove_173 rfl ?_
                  refine XM_get (k := 31) (v := .ref (M.2.1 31)) C rfl fwMo_79 dMo_tryMove_174 ?_
                  refine XM_iconst (v := 4) C dMo_tryMove_177 rfl ?_
                  refine XM_iload C dMo_tryMove_178 rfl ?_
                  refine XM_imul C dMo_tryMove_180 ?_
                  refine XM_iconst (v := 3) C dMo_tryMove_181 rfl ?_
                  refine XM_iadd C dMo_tryMove_182 ?_
                  refine XM_iload C dMo_tryMove_183 rfl ?_
                  refine XM_if_ge (tgt := 193) C dMo_tryMove_185 (by decide) (fun c53 => ?_) (fun c53 => ?_)
                  · rw [if_pos c53] at hR
                    refine XM_iload C dMo_tryMove_193 rfl ?_
                    obtain ⟨q54, hR⟩ := o_if hR
                    refine XM_iast (k := 31) (n := 800) C rfl (xin_vp q54) dMo_tryMove_195 ?_
                    obtain ⟨s55, es55, hR⟩ := b_bnd hR
                    rw [← es55]
                    refine XM_iconst (v := 0) C dMo_tryMove_196 rfl ?_
                    refine XM_istore (lv' := [(7, .int ((0 : Int32))), (6, .int ((r38.2.1 22 0) - ((1 : Int32)))), (0, .ref (M.1)), (1, .int (x1)), (2, .int (x2)), (3, .int (x3)), (4, .int (x4)), (5, .int (x5))]) C dMo_tryMove_197 (by decide) rfl ?_
                    refine XM_sub (lv' := [(0, .ref (M.1)), (1, .int (x1)), (2, .int (x2)), (3, .int (x3)), (4, .int (x4)), (5, .int (x5)), (6, .int ((r38.2.1 22 0) - ((1 : Int32)))), (7, .int ((0 : Int32)))]) [2, 3, 4, 5, 6, 7, 1, 0] rfl ?_
                    exact (ih (x1) (x2) (x3) (x4) (x5) ((r38.2.1 22 0) - ((1 : Int32))) ((0 : Int32)) _ _ _).2.2.1 hR
                  · rw [if_neg c53] at hR
                    refine XM_bipush (v := (-2)) C dMo_tryMove_188 (by decide) ?_
                    refine XM_goto (tgt := 195) C dMo_tryMove_190 (by decide) ?_
                    obtain ⟨q56, hR⟩ := o_if hR
                    refine XM_iast (k := 31) (n := 800) C rfl (xin_vp q56) dMo_tryMove_195 ?_
                    obtain ⟨s57, es57, hR⟩ := b_bnd hR
                    rw [← es57]
                    refine XM_iconst (v := 0) C dMo_tryMove_196 rfl ?_
                    refine XM_istore (lv' := [(7, .int ((0 : Int32))), (6, .int ((r38.2.1 22 0) - ((1 : Int32)))), (0, .ref (M.1)), (1, .int (x1)), (2, .int (x2)), (3, .int (x3)), (4, .int (x4)), (5, .int (x5))]) C dMo_tryMove_197 (by decide) rfl ?_
                    refine XM_sub (lv' := [(0, .ref (M.1)), (1, .int (x1)), (2, .int (x2)), (3, .int (x3)), (4, .int (x4)), (5, .int (x5)), (6, .int ((r38.2.1 22 0) - ((1 : Int32)))), (7, .int ((0 : Int32)))]) [2, 3, 4, 5, 6, 7, 1, 0] rfl ?_
                    exact (ih (x1) (x2) (x3) (x4) (x5) ((r38.2.1 22 0) - ((1 : Int32))) ((0 : Int32)) _ _ _).2.2.1 hR
              · rw [if_pos c37] at hR
                refine XM_aload_n C dMo_tryMove_109 rfl ?_
                refine XM_iconst (v := 1) C dMo_tryMove_110 rfl ?_
                refine XM_put (k := 37) C rfl fwMo_232 rfl rfl rfl dMo_tryMove_111 ?_
                obtain ⟨s58, es58, hR⟩ := b_bnd hR
                rw [← es58]
                have hR := Option.some.inj hR
                subst hR
                exact XM_vret C hr dMo_tryMove_114 rfl rfl rfl
            · rw [if_neg c36] at hR
              refine XM_aload_n C dMo_tryMove_88 rfl ?_
              refine XM_dup C dMo_tryMove_89 rfl ?_
              refine XM_get (k := 41) (v := .int (r35.2.1 41 0)) C rfl fwMo_229 dMo_tryMove_90 ?_
              refine XM_iconst (v := 1) C dMo_tryMove_93 rfl ?_
              refine XM_iadd C dMo_tryMove_94 ?_
              refine XM_put (k := 41) C rfl fwMo_229 rfl rfl rfl dMo_tryMove_95 ?_
              obtain ⟨s59, es59, hR⟩ := b_bnd hR
              rw [← es59]
              have hR := Option.some.inj hR
              subst hR
              exact XM_vret C hr dMo_tryMove_98 rfl rfl rfl
          · rw [if_neg c33] at hR
            have hR := Option.some.inj hR
            subst hR
            exact XM_vret C hr dMo_tryMove_70 rfl rfl rfl
      · rw [if_neg c1] at hR
        refine XM_aload_n C dMo_tryMove_12 rfl ?_
        refine XM_get (k := 38) (v := .ref (M.2.1 38)) C rfl fwMo_89 dMo_tryMove_13 ?_
        refine XM_iload C dMo_tryMove_16 rfl ?_
        refine XM_aload_n C dMo_tryMove_18 rfl ?_
        refine XM_get (k := 24) (v := .ref (M.2.1 24)) C rfl fwMo_58 dMo_tryMove_19 ?_
        refine XM_iconst (v := 3) C dMo_tryMove_22 rfl ?_
        refine XM_iload_n C dMo_tryMove_23 rfl ?_
        refine XM_imul C dMo_tryMove_24 ?_
        refine XM_iload C dMo_tryMove_25 rfl ?_
        refine XM_iadd C dMo_tryMove_27 ?_
        obtain ⟨q60, hR⟩ := o_if hR
        refine XM_iald (k := 24) (n := 600) C rfl (xin_vp q60) dMo_tryMove_28 ?_
        obtain ⟨q61, hR⟩ := o_if hR
        refine XM_iast (k := 38) (n := 3) C rfl (xin_vp q61) dMo_tryMove_29 ?_
        obtain ⟨s62, es62, hR⟩ := b_bnd hR
        rw [← es62]
        refine XM_iinc (v := x6 + 1) (lv' := [(6, .int (x6 + 1)), (0, .ref (M.1)), (1, .int (x1)), (2, .int (x2)), (3, .int (x3)), (4, .int (x4)), (5, .int (x5))]) C dMo_tryMove_30 rfl rfl (by decide) rfl ?_
        refine XM_goto (tgt := 3) C dMo_tryMove_33 (by decide) ?_
        refine XM_sub (lv' := [(0, .ref (M.1)), (1, .int (x1)), (2, .int (x2)), (3, .int (x3)), (4, .int (x4)), (5, .int (x5)), (6, .int (x6 + 1))]) [1, 2, 3, 4, 5, 6, 0] rfl ?_
        exact (ih (x1) (x2) (x3) (x4) (x5) (x6 + 1) 0 _ _ _).2.1 hR
    · rw [Mo_tryMove_e199] at hR
      unfold Mo_tryMove_t199 at hR
      refine XM_iload C dMo_tryMove_199 rfl ?_
      refine XM_aload_n C dMo_tryMove_201 rfl ?_
      refine XM_get (k := 1) (v := .int (σ 1 0)) C rfl fwMo_128 dMo_tryMove_202 ?_
      refine XM_icmp_ge (tgt := 232) C dMo_tryMove_205 (by decide) (fun c63 => ?_) (fun c63 => ?_)
      · rw [if_pos c63] at hR
        refine XM_aload_n C dMo_tryMove_232 rfl ?_
        refine XM_iconst (v := 5) C dMo_tryMove_233 rfl ?_
        refine XM_put (k := 16) C rfl fwMo_164 rfl rfl rfl dMo_tryMove_234 ?_
        obtain ⟨s64, es64, hR⟩ := b_bnd hR
        rw [← es64]
        refine XM_aload_n C dMo_tryMove_237 rfl ?_
        refine XM_iconst (v := 0) C dMo_tryMove_238 rfl ?_
        refine XM_put (k := 17) C rfl fwMo_167 rfl rfl rfl dMo_tryMove_239 ?_
        obtain ⟨s65, es65, hR⟩ := b_bnd hR
        rw [← es65]
        refine XM_iconst (v := 0) C dMo_tryMove_242 rfl ?_
        refine XM_istore (lv' := [(7, .int ((0 : Int32))), (0, .ref (M.1)), (1, .int (x1)), (2, .int (x2)), (3, .int (x3)), (4, .int (x4)), (5, .int (x5)), (6, .int (x6))]) C dMo_tryMove_243 (by decide) rfl ?_
        refine XM_sub (lv' := [(0, .ref (M.1)), (1, .int (x1)), (2, .int (x2)), (3, .int (x3)), (4, .int (x4)), (5, .int (x5)), (6, .int (x6)), (7, .int ((0 : Int32)))]) [1, 2, 3, 4, 5, 6, 7, 0] rfl ?_
        exact (ih (x1) (x2) (x3) (x4) (x5) (x6) ((0 : Int32)) _ _ _).2.2.2 hR
      · rw [if_neg c63] at hR
        refine XM_aload_n C dMo_tryMove_208 rfl ?_
        refine XM_get (k := 38) (v := .ref (M.2.1 38)) C rfl fwMo_89 dMo_tryMove_209 ?_
        refine XM_iload C dMo_tryMove_212 rfl ?_
        refine XM_aload_n C dMo_tryMove_214 rfl ?_
        refine XM_get (k := 24) (v := .ref (M.2.1 24)) C rfl fwMo_58 dMo_tryMove_215 ?_
        refine XM_iconst (v := 3) C dMo_tryMove_218 rfl ?_
        refine XM_iload_n C dMo_tryMove_219 rfl ?_
        refine XM_imul C dMo_tryMove_220 ?_
        refine XM_iload C dMo_tryMove_221 rfl ?_
        refine XM_iadd C dMo_tryMove_223 ?_
        obtain ⟨q66, hR⟩ := o_if hR
        refine XM_iald (k := 24) (n := 600) C rfl (xin_vp q66) dMo_tryMove_224 ?_
        obtain ⟨q67, hR⟩ := o_if hR
        refine XM_iast (k := 38) (n := 3) C rfl (xin_vp q67) dMo_tryMove_225 ?_
        obtain ⟨s68, es68, hR⟩ := b_bnd hR
        rw [← es68]
        refine XM_iinc (v := x7 + 1) (lv' := [(7, .int (x7 + 1)), (0, .ref (M.1)), (1, .int (x1)), (2, .int (x2)), (3, .int (x3)), (4, .int (x4)), (5, .int (x5)), (6, .int (x6))]) C dMo_tryMove_226 rfl rfl (by decide) rfl ?_
        refine XM_goto (tgt := 199) C dMo_tryMove_229 (by decide) ?_
        refine XM_sub (lv' := [(0, .ref (M.1)), (1, .int (x1)), (2, .int (x2)), (3, .int (x3)), (4, .int (x4)), (5, .int (x5)), (6, .int (x6)), (7, .int (x7 + 1))]) [1, 2, 3, 4, 5, 6, 7, 0] rfl ?_
        exact (ih (x1) (x2) (x3) (x4) (x5) (x6) (x7 + 1) _ _ _).2.2.1 hR
    · rw [Mo_tryMove_e245] at hR
      unfold Mo_tryMove_t245 at hR
      refine XM_iload C dMo_tryMove_245 rfl ?_
      refine XM_bipush (v := 25) C dMo_tryMove_247 (by decide) ?_
      refine XM_icmp_ge (tgt := 277) C dMo_tryMove_249 (by decide) (fun c69 => ?_) (fun c69 => ?_)
      · rw [if_pos c69] at hR
        refine XM_aload_n C dMo_tryMove_277 rfl ?_
        refine XM_iload_n C dMo_tryMove_278 rfl ?_
        refine XM_iload_n C dMo_tryMove_279 rfl ?_
        refine XM_iload C dMo_tryMove_280 rfl ?_
        refine XM_iload C dMo_tryMove_282 rfl ?_
        refine XM_iconst (v := 1) C dMo_tryMove_284 rfl ?_
        obtain ⟨r70, hr70, hR⟩ := o_bind hR
        refine XM_callVv (As := [.int (x2), .int (x3), .int (x4), .int (x5), .int ((1 : Int32))]) (rest := []) C (Mo_go_c hr70) wMo_215 ⟨by decide, by decide⟩ rfl rfl (Nat.le_of_ble_eq_true rfl) dMo_tryMove_285 ?_
        refine XM_aload_n C dMo_tryMove_288 rfl ?_
        refine XM_iload C dMo_tryMove_289 rfl ?_
        obtain ⟨r71, hr71, hR⟩ := o_bind hR
        refine XM_callVv (As := [.int (x6)]) (rest := []) C (Mo_keepExact_c hr71) wMo_238 ⟨by decide, by decide⟩ rfl rfl (Nat.le_of_ble_eq_true rfl) dMo_tryMove_291 ?_
        have hR := Option.some.inj hR
        subst hR
        exact XM_vret C hr dMo_tryMove_294 rfl rfl rfl
      · rw [if_neg c69] at hR
        refine XM_aload_n C dMo_tryMove_252 rfl ?_
        refine XM_get (k := 15) (v := .ref (M.2.1 15)) C rfl fwMo_49 dMo_tryMove_253 ?_
        refine XM_iload C dMo_tryMove_256 rfl ?_
        refine XM_aload_n C dMo_tryMove_258 rfl ?_
        refine XM_get (k := 26) (v := .ref (M.2.1 26)) C rfl fwMo_64 dMo_tryMove_259 ?_
        refine XM_bipush (v := 25) C dMo_tryMove_262 (by decide) ?_
        refine XM_iload_n C dMo_tryMove_264 rfl ?_
        refine XM_imul C dMo_tryMove_265 ?_
        refine XM_iload C dMo_tryMove_266 rfl ?_
        refine XM_iadd C dMo_tryMove_268 ?_
        obtain ⟨q72, hR⟩ := o_if hR
        refine XM_iald (k := 26) (n := 5000) C rfl (xin_vp q72) dMo_tryMove_269 ?_
        obtain ⟨q73, hR⟩ := o_if hR
        refine XM_iast (k := 15) (n := 25) C rfl (xin_vp q73) dMo_tryMove_270 ?_
        obtain ⟨s74, es74, hR⟩ := b_bnd hR
        rw [← es74]
        refine XM_iinc (v := x7 + 1) (lv' := [(7, .int (x7 + 1)), (0, .ref (M.1)), (1, .int (x1)), (2, .int (x2)), (3, .int (x3)), (4, .int (x4)), (5, .int (x5)), (6, .int (x6))]) C dMo_tryMove_271 rfl rfl (by decide) rfl ?_
        refine XM_goto (tgt := 245) C dMo_tryMove_274 (by decide) ?_
        refine XM_sub (lv' := [(0, .ref (M.1)), (1, .int (x1)), (2, .int (x2)), (3, .int (x3)), (4, .int (x4)), (5, .int (x5)), (6, .int (x6)), (7, .int (x7 + 1))]) [1, 2, 3, 4, 5, 6, 7, 0] rfl ?_
        exact (ih (x1) (x2) (x3) (x4) (x5) (x6) (x7 + 1) _ _ _).2.2.2 hR
theorem Mo_tryMove_c {l : Launch} {G : xG} {B : Nat} {M : xM} {n : Nat} {x1 x2 x3 x4 x5 : Int32} {σ : mS} {τ : mL} {R : Int32 × mS × mL} (hR : Mo_tryMove_f n 0 x1 x2 x3 x4 x5 0 0 σ τ = some R) : mCon l yMo_tryMove cMo_tryMove 8 none 7 160 G B M [.ref M.1, .int x1, .int x2, .int x3, .int x4, .int x5] σ τ none R.2.1 R.2.2 := mCon.of (by decide) (Nat.le_of_ble_eq_true rfl) (fun F e C hr => XM_sub (lv' := [(0, .ref (M.1)), (1, .int (x1)), (2, .int (x2)), (3, .int (x3)), (4, .int (x4)), (5, .int (x5))]) [0, 1, 2, 3, 4, 5] rfl ((Mo_tryMove_x C hr n x1 x2 x3 x4 x5 0 0 σ τ R).1 hR))
def Mo_tryWay_t0 (f : Nat → Int32 → Int32 → Int32 → Int32 → Int32 → Int32 → mS → mL → Option (Int32 × mS × mL)) (n : Nat) (x1 : Int32) (x2 : Int32) (x3 : Int32) (x4 : Int32) (x5 : Int32) (x6 : Int32) (σ : mS) (τ : mL) : Option (Int32 × mS × mL) := (if xin ((((12 : Int32)) * (x2)) + (x3)) 36 = true then (if xin ((((3 : Int32)) * (x1)) + (x2)) 600 = true then (if σ 7 (Int32.toNatClampNeg ((((12 : Int32)) * (x2)) + (x3))) = σ 24 (Int32.toNatClampNeg ((((3 : Int32)) * (x1)) + (x2))) then (if xin ((((12 : Int32)) * (x2)) + (x3)) 36 = true then (if 0 ≤ σ 9 (Int32.toNatClampNeg ((((12 : Int32)) * (x2)) + (x3))) then (if xin ((((12 : Int32)) * (x2)) + (x3)) 36 = true then (if σ 9 (Int32.toNatClampNeg ((((12 : Int32)) * (x2)) + (x3))) = 0 then obd (Mo_tryMove_f n 0 (x1) (x2) (x3) (((-1) : Int32)) (((-1) : Int32)) 0 0 σ τ) (fun r8 => some (0, r8.2.1, r8.2.2)) else f 62 (x1) (x2) (x3) ((((12 : Int32)) * (x2)) + (x3)) ((0 : Int32)) 0 σ τ) else none) else some (0, σ, τ)) else none) else some (0, σ, τ)) else none) else none)
def Mo_tryWay_t62 (f : Nat → Int32 → Int32 → Int32 → Int32 → Int32 → Int32 → mS → mL → Option (Int32 × mS × mL)) (n : Nat) (x1 : Int32) (x2 : Int32) (x3 : Int32) (x4 : Int32) (x5 : Int32) (x6 : Int32) (σ : mS) (τ : mL) : Option (Int32 × mS × mL) := (if σ 1 0 ≤ x5 then some (0, σ, τ) else f 74 (x1) (x2) (x3) (x4) (x5) ((0 : Int32)) σ τ)
def Mo_tryWay_t74 (f : Nat → Int32 → Int32 → Int32 → Int32 → Int32 → Int32 → mS → mL → Option (Int32 × mS × mL)) (n : Nat) (x1 : Int32) (x2 : Int32) (x3 : Int32) (x4 : Int32) (x5 : Int32) (x6 : Int32) (σ : mS) (τ : mL) : Option (Int32 × mS × mL) := (if xin (x5) 3 = true then (if σ 3 (Int32.toNatClampNeg (x5)) ≤ x6 then f 62 (x1) (x2) (x3) (x4) (x5 + 1) 0 σ τ else (if x5 = x2 then f 62 (x1) (x2) (x3) (x4) (x5 + 1) 0 σ τ else (if σ 37 0 = 0 then (if xin ((((12 : Int32)) * (x5)) + (x6)) 36 = true then (if xin ((((3 : Int32)) * (x1)) + (x5)) 600 = true then (if σ 7 (Int32.toNatClampNeg ((((12 : Int32)) * (x5)) + (x6))) = σ 24 (Int32.toNatClampNeg ((((3 : Int32)) * (x1)) + (x5))) then (if xin ((((12 : Int32)) * (x5)) + (x6)) 36 = true then (if xin (x4) 36 = true then (if σ 9 (Int32.toNatClampNeg ((((12 : Int32)) * (x5)) + (x6))) = -(σ 9 (Int32.toNatClampNeg (x4))) then obd (Mo_tryMove_f n 0 (x1) (x2) (x3) (x5) (x6) 0 0 σ τ) (fun r20 => f 74 (x1) (x2) (x3) (x4) (x5) (x6 + 1) r20.2.1 r20.2.2) else f 74 (x1) (x2) (x3) (x4) (x5) (x6 + 1) σ τ) else none) else none) else f 74 (x1) (x2) (x3) (x4) (x5) (x6 + 1) σ τ) else none) else none) else f 62 (x1) (x2) (x3) (x4) (x5 + 1) 0 σ τ))) else none)
def Mo_tryWay_f : Nat → Nat → Int32 → Int32 → Int32 → Int32 → Int32 → Int32 → mS → mL → Option (Int32 × mS × mL)
  | 0 => fun _ _ _ _ _ _ _ _ _ => none
  | n + 1 => fun p x1 x2 x3 x4 x5 x6 σ τ => if p = 0 then Mo_tryWay_t0 (Mo_tryWay_f n) n x1 x2 x3 x4 x5 x6 σ τ else if p = 62 then Mo_tryWay_t62 (Mo_tryWay_f n) n x1 x2 x3 x4 x5 x6 σ τ else if p = 74 then Mo_tryWay_t74 (Mo_tryWay_f n) n x1 x2 x3 x4 x5 x6 σ τ else none
theorem Mo_tryWay_e0 (n : Nat) (x1 : Int32) (x2 : Int32) (x3 : Int32) (x4 : Int32) (x5 : Int32) (x6 : Int32) (σ : mS) (τ : mL) : Mo_tryWay_f (n + 1) 0 x1 x2 x3 x4 x5 x6 σ τ = Mo_tryWay_t0 (Mo_tryWay_f n) n x1 x2 x3 x4 x5 x6 σ τ := by
  show (if 0 = 0 then Mo_tryWay_t0 (Mo_tryWay_f n) n x1 x2 x3 x4 x5 x6 σ τ else if 0 = 62 then Mo_tryWay_t62 (Mo_tryWay_f n) n x1 x2 x3 x4 x5 x6 σ τ else if 0 = 74 then Mo_tryWay_t74 (Mo_tryWay_f n) n x1 x2 x3 x4 x5 x6 σ τ else none) = _
  rw [if_pos rfl]
theorem Mo_tryWay_e62 (n : Nat) (x1 : Int32) (x2 : Int32) (x3 : Int32) (x4 : Int32) (x5 : Int32) (x6 : Int32) (σ : mS) (τ : mL) : Mo_tryWay_f (n + 1) 62 x1 x2 x3 x4 x5 x6 σ τ = Mo_tryWay_t62 (Mo_tryWay_f n) n x1 x2 x3 x4 x5 x6 σ τ := by
  show (if 62 = 0 then Mo_tryWay_t0 (Mo_tryWay_f n) n x1 x2 x3 x4 x5 x6 σ τ else if 62 = 62 then Mo_tryWay_t62 (Mo_tryWay_f n) n x1 x2 x3 x4 x5 x6 σ τ else if 62 = 74 then Mo_tryWay_t74 (Mo_tryWay_f n) n x1 x2 x3 x4 x5 x6 σ τ else none) = _
  rw [if_neg (by decide), if_pos rfl]
theorem Mo_tryWay_e74 (n : Nat) (x1 : Int32) (x2 : Int32) (x3 : Int32) (x4 : Int32) (x5 : Int32) (x6 : Int32) (σ : mS) (τ : mL) : Mo_tryWay_f (n + 1) 74 x1 x2 x3 x4 x5 x6 σ τ = Mo_tryWay_t74 (Mo_tryWay_f n) n x1 x2 x3 x4 x5 x6 σ τ := by
  show (if 74 = 0 then Mo_tryWay_t0 (Mo_tryWay_f n) n x1 x2 x3 x4 x5 x6 σ τ else if 74 = 62 then Mo_tryWay_t62 (Mo_tryWay_f n) n x1 x2 x3 x4 x5 x6 σ τ else if 74 = 74 then Mo_tryWay_t74 (Mo_tryWay_f n) n x1 x2 x3 x4 x5 x6 σ τ else none) = _
  rw [if_neg (by decide), if_neg (by decide), if_pos rfl]
set_option maxRecDepth 100000 in
set_option maxHeartbeats 8000000 in
theorem Mo_tryWay_x {F : xF} {G : xG} {B : Nat} {M : xM} (C : xC F G B cMo_tryWay RMo 7 8 187 0 0) (hr : (xFM F).sig.returnType = none) : ∀ (n : Nat) (x1 : Int32) (x2 : Int32) (x3 : Int32) (x4 : Int32) (x5 : Int32) (x6 : Int32) (σ : mS) (τ : mL) (R : Int32 × mS × mL), (Mo_tryWay_f n 0 x1 x2 x3 x4 x5 x6 σ τ = some R → XM F G B (xZ F G B (mP M none R.2.1 R.2.2) 0 0) 7 M σ τ 0 [(0, .ref (M.1)), (1, .int (x1)), (2, .int (x2)), (3, .int (x3))] []) ∧ (Mo_tryWay_f n 62 x1 x2 x3 x4 x5 x6 σ τ = some R → XM F G B (xZ F G B (mP M none R.2.1 R.2.2) 0 0) 7 M σ τ 62 [(0, .ref (M.1)), (1, .int (x1)), (2, .int (x2)), (3, .int (x3)), (4, .int (x4)), (5, .int (x5))] []) ∧ (Mo_tryWay_f n 74 x1 x2 x3 x4 x5 x6 σ τ = some R → XM F G B (xZ F G B (mP M none R.2.1 R.2.2) 0 0) 7 M σ τ 74 [(0, .ref (M.1)), (1, .int (x1)), (2, .int (x2)), (3, .int (x3)), (4, .int (x4)), (5, .int (x5)), (6, .int (x6))] []) := by
  intro n
  induction n with
  | zero => exact fun _ _ _ _ _ _ _ _ _ => ⟨(fun hR => nomatch (show (none : Option _) = some _ from hR)), (fun hR => nomatch (show (none : Option _) = some _ from hR)), (fun hR => nomatch (show (none : Option _) = some _ from hR))⟩
  | succ n ih =>
    intro x1 x2 x3 x4 x5 x6 σ τ R
    refine ⟨fun hR => ?_, fun hR => ?_, fun hR => ?_⟩
    · rw [Mo_tryWay_e0] at hR
      unfold Mo_tryWay_t0 at hR
      refine XM_bipush (v := 12) C dMo_tryWay_0 (by decide) ?_
      refine XM_iload_n C dMo_tryWay_2 rfl ?_
      refine XM_imul C dMo_tryWay_3 ?_
      refine XM_iload_n C dMo_tryWay_4 rfl ?_
      refine XM_iadd C dMo_tryWay_5 ?_
      refine XM_istore (lv' := [(4, .int ((((12 : Int32)) * (x2)) + (x3))), (0, .ref (M.1)), (1, .int (x1)), (2, .int (x2)), (3, .int (x3))]) C dMo_tryWay_6 (by decide) rfl ?_
      refine XM_aload_n C dMo_tryWay_8 rfl ?_
      refine XM_get (k := 7) (v := .ref (M.2.1 7)) C rfl fwMo_25 dMo_tryWay_9 ?_
      refine XM_iload C dMo_tryWay_12 rfl ?_
      obtain ⟨q1, hR⟩ := o_if hR
      refine XM_iald (k := 7) (n := 36) C rfl (xin_vp q1) dMo_tryWay_14 ?_
      refine XM_aload_n C dMo_tryWay_15 rfl ?_
      refine XM_get (k := 24) (v := .ref (M.2.1 24)) C rfl fwMo_58 dMo_tryWay_16 ?_
      refine XM_iconst (v := 3) C dMo_tryWay_19 rfl ?_
      refine XM_iload_n C dMo_tryWay_20 rfl ?_
      refine XM_imul C dMo_tryWay_21 ?_
      refine XM_iload_n C dMo_tryWay_22 rfl ?_
      refine XM_iadd C dMo_tryWay_23 ?_
      obtain ⟨q2, hR⟩ := o_if hR
      refine XM_iald (k := 24) (n := 600) C rfl (xin_vp q2) dMo_tryWay_24 ?_
      refine XM_icmp_ne (tgt := 38) C dMo_tryWay_25 (by decide) (fun c3 => ?_) (fun c3 => ?_)
      · rw [if_neg c3] at hR
        have hR := Option.some.inj hR
        subst hR
        exact XM_vret C hr dMo_tryWay_38 rfl rfl rfl
      · rw [if_pos c3] at hR
        refine XM_aload_n C dMo_tryWay_28 rfl ?_
        refine XM_get (k := 9) (v := .ref (M.2.1 9)) C rfl fwMo_31 dMo_tryWay_29 ?_
        refine XM_iload C dMo_tryWay_32 rfl ?_
        obtain ⟨q4, hR⟩ := o_if hR
        refine XM_iald (k := 9) (n := 36) C rfl (xin_vp q4) dMo_tryWay_34 ?_
        refine XM_if_ge (tgt := 39) C dMo_tryWay_35 (by decide) (fun c5 => ?_) (fun c5 => ?_)
        · rw [if_pos c5] at hR
          refine XM_aload_n C dMo_tryWay_39 rfl ?_
          refine XM_get (k := 9) (v := .ref (M.2.1 9)) C rfl fwMo_31 dMo_tryWay_40 ?_
          refine XM_iload C dMo_tryWay_43 rfl ?_
          obtain ⟨q6, hR⟩ := o_if hR
          refine XM_iald (k := 9) (n := 36) C rfl (xin_vp q6) dMo_tryWay_45 ?_
          refine XM_if_ne (tgt := 59) C dMo_tryWay_46 (by decide) (fun c7 => ?_) (fun c7 => ?_)
          · rw [if_neg c7] at hR
            refine XM_iconst (v := 0) C dMo_tryWay_59 rfl ?_
            refine XM_istore (lv' := [(5, .int ((0 : Int32))), (4, .int ((((12 : Int32)) * (x2)) + (x3))), (0, .ref (M.1)), (1, .int (x1)), (2, .int (x2)), (3, .int (x3))]) C dMo_tryWay_60 (by decide) rfl ?_
            refine XM_sub (lv' := [(0, .ref (M.1)), (1, .int (x1)), (2, .int (x2)), (3, .int (x3)), (4, .int ((((12 : Int32)) * (x2)) + (x3))), (5, .int ((0 : Int32)))]) [2, 3, 4, 5, 1, 0] rfl ?_
            exact (ih (x1) (x2) (x3) ((((12 : Int32)) * (x2)) + (x3)) ((0 : Int32)) 0 _ _ _).2.1 hR
          · rw [if_pos c7] at hR
            refine XM_aload_n C dMo_tryWay_49 rfl ?_
            refine XM_iload_n C dMo_tryWay_50 rfl ?_
            refine XM_iload_n C dMo_tryWay_51 rfl ?_
            refine XM_iload_n C dMo_tryWay_52 rfl ?_
            refine XM_iconst (v := (-1)) C dMo_tryWay_53 rfl ?_
            refine XM_iconst (v := (-1)) C dMo_tryWay_54 rfl ?_
            obtain ⟨r8, hr8, hR⟩ := o_bind hR
            refine XM_callVv (As := [.int (x1), .int (x2), .int (x3), .int (((-1) : Int32)), .int (((-1) : Int32))]) (rest := []) C (Mo_tryMove_c hr8) wMo_241 ⟨by decide, by decide⟩ rfl rfl (Nat.le_of_ble_eq_true rfl) dMo_tryWay_55 ?_
            have hR := Option.some.inj hR
            subst hR
            exact XM_vret C hr dMo_tryWay_58 rfl rfl rfl
        · rw [if_neg c5] at hR
          have hR := Option.some.inj hR
          subst hR
          exact XM_vret C hr dMo_tryWay_38 rfl rfl rfl
    · rw [Mo_tryWay_e62] at hR
      unfold Mo_tryWay_t62 at hR
      refine XM_iload C dMo_tryWay_62 rfl ?_
      refine XM_aload_n C dMo_tryWay_64 rfl ?_
      refine XM_get (k := 1) (v := .int (σ 1 0)) C rfl fwMo_128 dMo_tryWay_65 ?_
      refine XM_icmp_ge (tgt := 173) C dMo_tryWay_68 (by decide) (fun c9 => ?_) (fun c9 => ?_)
      · rw [if_pos c9] at hR
        have hR := Option.some.inj hR
        subst hR
        exact XM_vret C hr dMo_tryWay_173 rfl rfl rfl
      · rw [if_neg c9] at hR
        refine XM_iconst (v := 0) C dMo_tryWay_71 rfl ?_
        refine XM_istore (lv' := [(6, .int ((0 : Int32))), (0, .ref (M.1)), (1, .int (x1)), (2, .int (x2)), (3, .int (x3)), (4, .int (x4)), (5, .int (x5))]) C dMo_tryWay_72 (by decide) rfl ?_
        refine XM_sub (lv' := [(0, .ref (M.1)), (1, .int (x1)), (2, .int (x2)), (3, .int (x3)), (4, .int (x4)), (5, .int (x5)), (6, .int ((0 : Int32)))]) [1, 2, 3, 4, 5, 6, 0] rfl ?_
        exact (ih (x1) (x2) (x3) (x4) (x5) ((0 : Int32)) _ _ _).2.2 hR
    · rw [Mo_tryWay_e74] at hR
      unfold Mo_tryWay_t74 at hR
      refine XM_iload C dMo_tryWay_74 rfl ?_
      refine XM_aload_n C dMo_tryWay_76 rfl ?_
      refine XM_get (k := 3) (v := .ref (M.2.1 3)) C rfl fwMo_13 dMo_tryWay_77 ?_
      refine XM_iload C dMo_tryWay_80 rfl ?_
      obtain ⟨q10, hR⟩ := o_if hR
      refine XM_iald (k := 3) (n := 3) C rfl (xin_vp q10) dMo_tryWay_82 ?_
      refine XM_icmp_ge (tgt := 167) C dMo_tryWay_83 (by decide) (fun c11 => ?_) (fun c11 => ?_)
      · rw [if_pos c11] at hR
        refine XM_iinc (v := x5 + 1) (lv' := [(5, .int (x5 + 1)), (0, .ref (M.1)), (1, .int (x1)), (2, .int (x2)), (3, .int (x3)), (4, .int (x4)), (6, .int (x6))]) C dMo_tryWay_167 rfl rfl (by decide) rfl ?_
        refine XM_goto (tgt := 62) C dMo_tryWay_170 (by decide) ?_
        refine XM_sub (lv' := [(0, .ref (M.1)), (1, .int (x1)), (2, .int (x2)), (3, .int (x3)), (4, .int (x4)), (5, .int (x5 + 1))]) [1, 2, 3, 4, 5, 0] rfl ?_
        exact (ih (x1) (x2) (x3) (x4) (x5 + 1) 0 _ _ _).2.1 hR
      · rw [if_neg c11] at hR
        refine XM_iload C dMo_tryWay_86 rfl ?_
        refine XM_iload_n C dMo_tryWay_88 rfl ?_
        refine XM_icmp_eq (tgt := 167) C dMo_tryWay_89 (by decide) (fun c12 => ?_) (fun c12 => ?_)
        · rw [if_pos c12] at hR
          refine XM_iinc (v := x5 + 1) (lv' := [(5, .int (x5 + 1)), (0, .ref (M.1)), (1, .int (x1)), (2, .int (x2)), (3, .int (x3)), (4, .int (x4)), (6, .int (x6))]) C dMo_tryWay_167 rfl rfl (by decide) rfl ?_
          refine XM_goto (tgt := 62) C dMo_tryWay_170 (by decide) ?_
          refine XM_sub (lv' := [(0, .ref (M.1)), (1, .int (x1)), (2, .int (x2)), (3, .int (x3)), (4, .int (x4)), (5, .int (x5 + 1))]) [1, 2, 3, 4, 5, 0] rfl ?_
          exact (ih (x1) (x2) (x3) (x4) (x5 + 1) 0 _ _ _).2.1 hR
        · rw [if_neg c12] at hR
          refine XM_aload_n C dMo_tryWay_92 rfl ?_
          refine XM_get (k := 37) (v := .int (σ 37 0)) C rfl fwMo_232 dMo_tryWay_93 ?_
          refine XM_if_ne (tgt := 167) C dMo_tryWay_96 (by decide) (fun c13 => ?_) (fun c13 => ?_)
          · rw [if_neg c13] at hR
            refine XM_iinc (v := x5 + 1) (lv' := [(5, .int (x5 + 1)), (0, .ref (M.1)), (1, .int (x1)), (2, .int (x2)), (3, .int (x3)), (4, .int (x4)), (6, .int (x6))]) C dMo_tryWay_167 rfl rfl (by decide) rfl ?_
            refine XM_goto (tgt := 62) C dMo_tryWay_170 (by decide) ?_
            refine XM_sub (lv' := [(0, .ref (M.1)), (1, .int (x1)), (2, .int (x2)), (3, .int (x3)), (4, .int (x4)), (5, .int (x5 + 1))]) [1, 2, 3, 4, 5, 0] rfl ?_
            exact (ih (x1) (x2) (x3) (x4) (x5 + 1) 0 _ _ _).2.1 hR
          · rw [if_pos c13] at hR
            refine XM_aload_n C dMo_tryWay_99 rfl ?_
            refine XM_get (k := 7) (v := .ref (M.2.1 7)) C rfl fwMo_25 dMo_tryWay_100 ?_
            refine XM_bipush (v := 12) C dMo_tryWay_103 (by decide) ?_
            refine XM_iload C dMo_tryWay_105 rfl ?_
            refine XM_imul C dMo_tryWay_107 ?_
            refine XM_iload C dMo_tryWay_108 rfl ?_
            refine XM_iadd C dMo_tryWay_110 ?_
            obtain ⟨q14, hR⟩ := o_if hR
            refine XM_iald (k := 7) (n := 36) C rfl (xin_vp q14) dMo_tryWay_111 ?_
            refine XM_aload_n C dMo_tryWay_112 rfl ?_
            refine XM_get (k := 24) (v := .ref (M.2.1 24)) C rfl fwMo_58 dMo_tryWay_113 ?_
            refine XM_iconst (v := 3) C dMo_tryWay_116 rfl ?_
            refine XM_iload_n C dMo_tryWay_117 rfl ?_
            refine XM_imul C dMo_tryWay_118 ?_
            refine XM_iload C dMo_tryWay_119 rfl ?_
            refine XM_iadd C dMo_tryWay_121 ?_
            obtain ⟨q15, hR⟩ := o_if hR
            refine XM_iald (k := 24) (n := 600) C rfl (xin_vp q15) dMo_tryWay_122 ?_
            refine XM_icmp_ne (tgt := 161) C dMo_tryWay_123 (by decide) (fun c16 => ?_) (fun c16 => ?_)
            · rw [if_neg c16] at hR
              refine XM_iinc (v := x6 + 1) (lv' := [(6, .int (x6 + 1)), (0, .ref (M.1)), (1, .int (x1)), (2, .int (x2)), (3, .int (x3)), (4, .int (x4)), (5, .int (x5))]) C dMo_tryWay_161 rfl rfl (by decide) rfl ?_
              refine XM_goto (tgt := 74) C dMo_tryWay_164 (by decide) ?_
              refine XM_sub (lv' := [(0, .ref (M.1)), (1, .int (x1)), (2, .int (x2)), (3, .int (x3)), (4, .int (x4)), (5, .int (x5)), (6, .int (x6 + 1))]) [1, 2, 3, 4, 5, 6, 0] rfl ?_
              exact (ih (x1) (x2) (x3) (x4) (x5) (x6 + 1) _ _ _).2.2 hR
            · rw [if_pos c16] at hR
              refine XM_aload_n C dMo_tryWay_126 rfl ?_
              refine XM_get (k := 9) (v := .ref (M.2.1 9)) C rfl fwMo_31 dMo_tryWay_127 ?_
              refine XM_bipush (v := 12) C dMo_tryWay_130 (by decide) ?_
              refine XM_iload C dMo_tryWay_132 rfl ?_
              refine XM_imul C dMo_tryWay_134 ?_
              refine XM_iload C dMo_tryWay_135 rfl ?_
              refine XM_iadd C dMo_tryWay_137 ?_
              obtain ⟨q17, hR⟩ := o_if hR
              refine XM_iald (k := 9) (n := 36) C rfl (xin_vp q17) dMo_tryWay_138 ?_
              refine XM_aload_n C dMo_tryWay_139 rfl ?_
              refine XM_get (k := 9) (v := .ref (M.2.1 9)) C rfl fwMo_31 dMo_tryWay_140 ?_
              refine XM_iload C dMo_tryWay_143 rfl ?_
              obtain ⟨q18, hR⟩ := o_if hR
              refine XM_iald (k := 9) (n := 36) C rfl (xin_vp q18) dMo_tryWay_145 ?_
              refine XM_ineg C dMo_tryWay_146 ?_
              refine XM_icmp_ne (tgt := 161) C dMo_tryWay_147 (by decide) (fun c19 => ?_) (fun c19 => ?_)
              · rw [if_neg c19] at hR
                refine XM_iinc (v := x6 + 1) (lv' := [(6, .int (x6 + 1)), (0, .ref (M.1)), (1, .int (x1)), (2, .int (x2)), (3, .int (x3)), (4, .int (x4)), (5, .int (x5))]) C dMo_tryWay_161 rfl rfl (by decide) rfl ?_
                refine XM_goto (tgt := 74) C dMo_tryWay_164 (by decide) ?_
                refine XM_sub (lv' := [(0, .ref (M.1)), (1, .int (x1)), (2, .int (x2)), (3, .int (x3)), (4, .int (x4)), (5, .int (x5)), (6, .int (x6 + 1))]) [1, 2, 3, 4, 5, 6, 0] rfl ?_
                exact (ih (x1) (x2) (x3) (x4) (x5) (x6 + 1) _ _ _).2.2 hR
              · rw [if_pos c19] at hR
                refine XM_aload_n C dMo_tryWay_150 rfl ?_
                refine XM_iload_n C dMo_tryWay_151 rfl ?_
                refine XM_iload_n C dMo_tryWay_152 rfl ?_
                refine XM_iload_n C dMo_tryWay_153 rfl ?_
                refine XM_iload C dMo_tryWay_154 rfl ?_
                refine XM_iload C dMo_tryWay_156 rfl ?_
                obtain ⟨r20, hr20, hR⟩ := o_bind hR
                refine XM_callVv (As := [.int (x1), .int (x2), .int (x3), .int (x5), .int (x6)]) (rest := []) C (Mo_tryMove_c hr20) wMo_241 ⟨by decide, by decide⟩ rfl rfl (Nat.le_of_ble_eq_true rfl) dMo_tryWay_158 ?_
                refine XM_iinc (v := x6 + 1) (lv' := [(6, .int (x6 + 1)), (0, .ref (M.1)), (1, .int (x1)), (2, .int (x2)), (3, .int (x3)), (4, .int (x4)), (5, .int (x5))]) C dMo_tryWay_161 rfl rfl (by decide) rfl ?_
                refine XM_goto (tgt := 74) C dMo_tryWay_164 (by decide) ?_
                refine XM_sub (lv' := [(0, .ref (M.1)), (1, .int (x1)), (2, .int (x2)), (3, .int (x3)), (4, .int (x4)), (5, .int (x5)), (6, .int (x6 + 1))]) [1, 2, 3, 4, 5, 6, 0] rfl ?_
                exact (ih (x1) (x2) (x3) (x4) (x5) (x6 + 1) _ _ _).2.2 hR
theorem Mo_tryWay_c {l : Launch} {G : xG} {B : Nat} {M : xM} {n : Nat} {x1 x2 x3 : Int32} {σ : mS} {τ : mL} {R : Int32 × mS × mL} (hR : Mo_tryWay_f n 0 x1 x2 x3 0 0 0 σ τ = some R) : mCon l yMo_tryWay cMo_tryWay 7 none 8 187 G B M [.ref M.1, .int x1, .int x2, .int x3] σ τ none R.2.1 R.2.2 := mCon.of (by decide) (Nat.le_of_ble_eq_true rfl) (fun F e C hr => XM_sub (lv' := [(0, .ref (M.1)), (1, .int (x1)), (2, .int (x2)), (3, .int (x3))]) [0, 1, 2, 3] rfl ((Mo_tryWay_x C hr n x1 x2 x3 0 0 0 σ τ R).1 hR))
def Mo_lookAt_t0 (f : Nat → Int32 → Int32 → Int32 → mS → mL → Option (Int32 × mS × mL)) (n : Nat) (x1 : Int32) (x2 : Int32) (x3 : Int32) (σ : mS) (τ : mL) : Option (Int32 × mS × mL) := bnd (su σ 40 0 ((0 : Int32))) (fun s1 => bnd (su s1 41 0 ((0 : Int32))) (fun s2 => f 12 (x1) ((0 : Int32)) 0 s2 τ))
def Mo_lookAt_t12 (f : Nat → Int32 → Int32 → Int32 → mS → mL → Option (Int32 × mS × mL)) (n : Nat) (x1 : Int32) (x2 : Int32) (x3 : Int32) (σ : mS) (τ : mL) : Option (Int32 × mS × mL) := (if σ 1 0 ≤ x2 then (if σ 37 0 = 0 then (if xin (x1) 200 = true then bnd (su σ 29 (Int32.toNatClampNeg (x1)) (σ 40 0)) (fun s6 => bnd (su s6 34 0 ((s6 34 0) + (s6 40 0))) (fun s7 => bnd (su s7 35 0 ((s7 35 0) + (s7 41 0))) (fun s8 => bnd (su s8 23 0 ((s8 23 0) + ((1 : Int32)))) (fun s9 => some (0, s9, τ))))) else none) else some (0, σ, τ)) else f 22 (x1) (x2) ((0 : Int32)) σ τ)
def Mo_lookAt_t22 (f : Nat → Int32 → Int32 → Int32 → mS → mL → Option (Int32 × mS × mL)) (n : Nat) (x1 : Int32) (x2 : Int32) (x3 : Int32) (σ : mS) (τ : mL) : Option (Int32 × mS × mL) := (if xin (x2) 3 = true then (if σ 3 (Int32.toNatClampNeg (x2)) ≤ x3 then f 12 (x1) (x2 + 1) 0 σ τ else (if σ 37 0 = 0 then obd (Mo_tryWay_f n 0 (x1) (x2) (x3) 0 0 0 σ τ) (fun r13 => f 22 (x1) (x2) (x3 + 1) r13.2.1 r13.2.2) else f 12 (x1) (x2 + 1) 0 σ τ)) else none)
def Mo_lookAt_f : Nat → Nat → Int32 → Int32 → Int32 → mS → mL → Option (Int32 × mS × mL)
  | 0 => fun _ _ _ _ _ _ => none
  | n + 1 => fun p x1 x2 x3 σ τ => if p = 0 then Mo_lookAt_t0 (Mo_lookAt_f n) n x1 x2 x3 σ τ else if p = 12 then Mo_lookAt_t12 (Mo_lookAt_f n) n x1 x2 x3 σ τ else if p = 22 then Mo_lookAt_t22 (Mo_lookAt_f n) n x1 x2 x3 σ τ else none
theorem Mo_lookAt_e0 (n : Nat) (x1 : Int32) (x2 : Int32) (x3 : Int32) (σ : mS) (τ : mL) : Mo_lookAt_f (n + 1) 0 x1 x2 x3 σ τ = Mo_lookAt_t0 (Mo_lookAt_f n) n x1 x2 x3 σ τ := by
  show (if 0 = 0 then Mo_lookAt_t0 (Mo_lookAt_f n) n x1 x2 x3 σ τ else if 0 = 12 then Mo_lookAt_t12 (Mo_lookAt_f n) n x1 x2 x3 σ τ else if 0 = 22 then Mo_lookAt_t22 (Mo_lookAt_f n) n x1 x2 x3 σ τ else none) = _
  rw [if_pos rfl]
theorem Mo_lookAt_e12 (n : Nat) (x1 : Int32) (x2 : Int32) (x3 : Int32) (σ : mS) (τ : mL) : Mo_lookAt_f (n + 1) 12 x1 x2 x3 σ τ = Mo_lookAt_t12 (Mo_lookAt_f n) n x1 x2 x3 σ τ := by
  show (if 12 = 0 then Mo_lookAt_t0 (Mo_lookAt_f n) n x1 x2 x3 σ τ else if 12 = 12 then Mo_lookAt_t12 (Mo_lookAt_f n) n x1 x2 x3 σ τ else if 12 = 22 then Mo_lookAt_t22 (Mo_lookAt_f n) n x1 x2 x3 σ τ else none) = _
  rw [if_neg (by decide), if_pos rfl]
theorem Mo_lookAt_e22 (n : Nat) (x1 : Int32) (x2 : Int32) (x3 : Int32) (σ : mS) (τ : mL) : Mo_lookAt_f (n + 1) 22 x1 x2 x3 σ τ = Mo_lookAt_t22 (Mo_lookAt_f n) n x1 x2 x3 σ τ := by
  show (if 22 = 0 then Mo_lookAt_t0 (Mo_lookAt_f n) n x1 x2 x3 σ τ else if 22 = 12 then Mo_lookAt_t12 (Mo_lookAt_f n) n x1 x2 x3 σ τ else if 22 = 22 then Mo_lookAt_t22 (Mo_lookAt_f n) n x1 x2 x3 σ τ else none) = _
  rw [if_neg (by decide), if_neg (by decide), if_pos rfl]
set_option maxRecDepth 100000 in
set_option maxHeartbeats 8000000 in
theorem Mo_lookAt_x {F : xF} {G : xG} {B : Nat} {M : xM} (C : xC F G B cMo_lookAt RMo 4 9 213 0 0) (hr : (xFM F).sig.returnType = none) : ∀ (n : Nat) (x1 : Int32) (x2 : Int32) (x3 : Int32) (σ : mS) (τ : mL) (R : Int32 × mS × mL), (Mo_lookAt_f n 0 x1 x2 x3 σ τ = some R → XM F G B (xZ F G B (mP M none R.2.1 R.2.2) 0 0) 4 M σ τ 0 [(0, .ref (M.1)), (1, .int (x1))] []) ∧ (Mo_lookAt_f n 12 x1 x2 x3 σ τ = some R → XM F G B (xZ F G B (mP M none R.2.1 R.2.2) 0 0) 4 M σ τ 12 [(0, .ref (M.1)), (1, .int (x1)), (2, .int (x2))] []) ∧ (Mo_lookAt_f n 22 x1 x2 x3 σ τ = some R → XM F G B (xZ F G B (mP M none R.2.1 R.2.2) 0 0) 4 M σ τ 22 [(0, .ref (M.1)), (1, .int (x1)), (2, .int (x2)), (3, .int (x3))] []) := by
  intro n
  induction n with
  | zero => exact fun _ _ _ _ _ _ => ⟨(fun hR => nomatch (show (none : Option _) = some _ from hR)), (fun hR => nomatch (show (none : Option _) = some _ from hR)), (fun hR => nomatch (show (none : Option _) = some _ from hR))⟩
  | succ n ih =>
    intro x1 x2 x3 σ τ R
    refine ⟨fun hR => ?_, fun hR => ?_, fun hR => ?_⟩
    · rw [Mo_lookAt_e0] at hR
      unfold Mo_lookAt_t0 at hR
      refine XM_aload_n C dMo_lookAt_0 rfl ?_
      refine XM_iconst (v := 0) C dMo_lookAt_1 rfl ?_
      refine XM_put (k := 40) C rfl fwMo_222 rfl rfl rfl dMo_lookAt_2 ?_
      obtain ⟨s1, es1, hR⟩ := b_bnd hR
      rw [← es1]
      refine XM_aload_n C dMo_lookAt_5 rfl ?_
      refine XM_iconst (v := 0) C dMo_lookAt_6 rfl ?_
      refine XM_put (k := 41) C rfl fwMo_229 rfl rfl rfl dMo_lookAt_7 ?_
      obtain ⟨s2, es2, hR⟩ := b_bnd hR
      rw [← es2]
      refine XM_iconst (v := 0) C dMo_lookAt_10 rfl ?_
      refine XM_istore_n (lv' := [(2, .int ((0 : Int32))), (0, .ref (M.1)), (1, .int (x1))]) C dMo_lookAt_11 (by decide) rfl ?_
      refine XM_sub (lv' := [(0, .ref (M.1)), (1, .int (x1)), (2, .int ((0 : Int32)))]) [1, 2, 0] rfl ?_
      exact (ih (x1) ((0 : Int32)) 0 _ _ _).2.1 hR
    · rw [Mo_lookAt_e12] at hR
      unfold Mo_lookAt_t12 at hR
      refine XM_iload_n C dMo_lookAt_12 rfl ?_
      refine XM_aload_n C dMo_lookAt_13 rfl ?_
      refine XM_get (k := 1) (v := .int (σ 1 0)) C rfl fwMo_128 dMo_lookAt_14 ?_
      refine XM_icmp_ge (tgt := 58) C dMo_lookAt_17 (by decide) (fun c3 => ?_) (fun c3 => ?_)
      · rw [if_pos c3] at hR
        refine XM_aload_n C dMo_lookAt_58 rfl ?_
        refine XM_get (k := 37) (v := .int (σ 37 0)) C rfl fwMo_232 dMo_lookAt_59 ?_
        refine XM_if_ne (tgt := 111) C dMo_lookAt_62 (by decide) (fun c4 => ?_) (fun c4 => ?_)
        · rw [if_neg c4] at hR
          have hR := Option.some.inj hR
          subst hR
          exact XM_vret C hr dMo_lookAt_111 rfl rfl rfl
        · rw [if_pos c4] at hR
          refine XM_aload_n C dMo_lookAt_65 rfl ?_
          refine XM_get (k := 29) (v := .ref (M.2.1 29)) C rfl fwMo_73 dMo_lookAt_66 ?_
          refine XM_iload_n C dMo_lookAt_69 rfl ?_
          refine XM_aload_n C dMo_lookAt_70 rfl ?_
          refine XM_get (k := 40) (v := .int (σ 40 0)) C rfl fwMo_222 dMo_lookAt_71 ?_
          obtain ⟨q5, hR⟩ := o_if hR
          refine XM_iast (k := 29) (n := 200) C rfl (xin_vp q5) dMo_lookAt_74 ?_
          obtain ⟨s6, es6, hR⟩ := b_bnd hR
          rw [← es6]
          refine XM_aload_n C dMo_lookAt_75 rfl ?_
          refine XM_dup C dMo_lookAt_76 rfl ?_
          refine XM_get (k := 34) (v := .int (s6 34 0)) C rfl fwMo_248 dMo_lookAt_77 ?_
          refine XM_aload_n C dMo_lookAt_80 rfl ?_
          refine XM_get (k := 40) (v := .int (s6 40 0)) C rfl fwMo_222 dMo_lookAt_81 ?_
          refine XM_iadd C dMo_lookAt_84 ?_
          refine XM_put (k := 34) C rfl fwMo_248 rfl rfl rfl dMo_lookAt_85 ?_
          obtain ⟨s7, es7, hR⟩ := b_bnd hR
          rw [← es7]
          refine XM_aload_n C dMo_lookAt_88 rfl ?_
          refine XM_dup C dMo_lookAt_89 rfl ?_
          refine XM_get (k := 35) (v := .int (s7 35 0)) C rfl fwMo_251 dMo_lookAt_90 ?_
          refine XM_aload_n C dMo_lookAt_93 rfl ?_
          refine XM_get (k := 41) (v := .int (s7 41 0)) C rfl fwMo_229 dMo_lookAt_94 ?_
          refine XM_iadd C dMo_lookAt_97 ?_
          refine XM_put (k := 35) C rfl fwMo_251 rfl rfl rfl dMo_lookAt_98 ?_
          obtain ⟨s8, es8, hR⟩ := b_bnd hR
          rw [← es8]
          refine XM_aload_n C dMo_lookAt_101 rfl ?_
          refine XM_dup C dMo_lookAt_102 rfl ?_
          refine XM_get (k := 23) (v := .int (s8 23 0)) C rfl fwMo_254 dMo_lookAt_103 ?_
          refine XM_iconst (v := 1) C dMo_lookAt_106 rfl ?_
          refine XM_iadd C dMo_lookAt_107 ?_
          refine XM_put (k := 23) C rfl fwMo_254 rfl rfl rfl dMo_lookAt_108 ?_
          obtain ⟨s9, es9, hR⟩ := b_bnd hR
          rw [← es9]
          have hR := Option.some.inj hR
          subst hR
          exact XM_vret C hr dMo_lookAt_111 rfl rfl rfl
      · rw [if_neg c3] at hR
        refine XM_iconst (v := 0) C dMo_lookAt_20 rfl ?_
        refine XM_istore_n (lv' := [(3, .int ((0 : Int32))), (0, .ref (M.1)), (1, .int (x1)), (2, .int (x2))]) C dMo_lookAt_21 (by decide) rfl ?_
        refine XM_sub (lv' := [(0, .ref (M.1)), (1, .int (x1)), (2, .int (x2)), (3, .int ((0 : Int32)))]) [1, 2, 3, 0] rfl ?_
        exact (ih (x1) (x2) ((0 : Int32)) _ _ _).2.2 hR
    · rw [Mo_lookAt_e22] at hR
      unfold Mo_lookAt_t22 at hR
      refine XM_iload_n C dMo_lookAt_22 rfl ?_
      refine XM_aload_n C dMo_lookAt_23 rfl ?_
      refine XM_get (k := 3) (v := .ref (M.2.1 3)) C rfl fwMo_13 dMo_lookAt_24 ?_
      refine XM_iload_n C dMo_lookAt_27 rfl ?_
      obtain ⟨q10, hR⟩ := o_if hR
      refine XM_iald (k := 3) (n := 3) C rfl (xin_vp q10) dMo_lookAt_28 ?_
      refine XM_icmp_ge (tgt := 52) C dMo_lookAt_29 (by decide) (fun c11 => ?_) (fun c11 => ?_)
      · rw [if_pos c11] at hR
        refine XM_iinc (v := x2 + 1) (lv' := [(2, .int (x2 + 1)), (0, .ref (M.1)), (1, .int (x1)), (3, .int (x3))]) C dMo_lookAt_52 rfl rfl (by decide) rfl ?_
        refine XM_goto (tgt := 12) C dMo_lookAt_55 (by decide) ?_
        refine XM_sub (lv' := [(0, .ref (M.1)), (1, .int (x1)), (2, .int (x2 + 1))]) [1, 2, 0] rfl ?_
        exact (ih (x1) (x2 + 1) 0 _ _ _).2.1 hR
      · rw [if_neg c11] at hR
        refine XM_aload_n C dMo_lookAt_32 rfl ?_
        refine XM_get (k := 37) (v := .int (σ 37 0)) C rfl fwMo_232 dMo_lookAt_33 ?_
        refine XM_if_ne (tgt := 52) C dMo_lookAt_36 (by decide) (fun c12 => ?_) (fun c12 => ?_)
        · rw [if_neg c12] at hR
          refine XM_iinc (v := x2 + 1) (lv' := [(2, .int (x2 + 1)), (0, .ref (M.1)), (1, .int (x1)), (3, .int (x3))]) C dMo_lookAt_52 rfl rfl (by decide) rfl ?_
          refine XM_goto (tgt := 12) C dMo_lookAt_55 (by decide) ?_
          refine XM_sub (lv' := [(0, .ref (M.1)), (1, .int (x1)), (2, .int (x2 + 1))]) [1, 2, 0] rfl ?_
          exact (ih (x1) (x2 + 1) 0 _ _ _).2.1 hR
        · rw [if_pos c12] at hR
          refine XM_aload_n C dMo_lookAt_39 rfl ?_
          refine XM_iload_n C dMo_lookAt_40 rfl ?_
          refine XM_iload_n C dMo_lookAt_41 rfl ?_
          refine XM_iload_n C dMo_lookAt_42 rfl ?_
          obtain ⟨r13, hr13, hR⟩ := o_bind hR
          refine XM_callVv (As := [.int (x1), .int (x2), .int (x3)]) (rest := []) C (Mo_tryWay_c hr13) wMo_245 ⟨by decide, by decide⟩ rfl rfl (Nat.le_of_ble_eq_true rfl) dMo_lookAt_43 ?_
          refine XM_iinc (v := x3 + 1) (lv' := [(3, .int (x3 + 1)), (0, .ref (M.1)), (1, .int (x1)), (2, .int (x2))]) C dMo_lookAt_46 rfl rfl (by decide) rfl ?_
          refine XM_goto (tgt := 22) C dMo_lookAt_49 (by decide) ?_
          refine XM_sub (lv' := [(0, .ref (M.1)), (1, .int (x1)), (2, .int (x2)), (3, .int (x3 + 1))]) [1, 2, 3, 0] rfl ?_
          exact (ih (x1) (x2) (x3 + 1) _ _ _).2.2 hR
theorem Mo_lookAt_c {l : Launch} {G : xG} {B : Nat} {M : xM} {n : Nat} {x1 : Int32} {σ : mS} {τ : mL} {R : Int32 × mS × mL} (hR : Mo_lookAt_f n 0 x1 0 0 σ τ = some R) : mCon l yMo_lookAt cMo_lookAt 4 none 9 213 G B M [.ref M.1, .int x1] σ τ none R.2.1 R.2.2 := mCon.of (by decide) (Nat.le_of_ble_eq_true rfl) (fun F e C hr => XM_sub (lv' := [(0, .ref (M.1)), (1, .int (x1))]) [0, 1] rfl ((Mo_lookAt_x C hr n x1 0 0 σ τ R).1 hR))
def Mo_start_t0 (f : Nat → Int32 → mS → mL → Option (Int32 × mS × mL)) (n : Nat) (x1 : Int32) (σ : mS) (τ : mL) : Option (Int32 × mS × mL) := f 2 ((0 : Int32)) σ τ
def Mo_start_t2 (f : Nat → Int32 → mS → mL → Option (Int32 × mS × mL)) (n : Nat) (x1 : Int32) (σ : mS) (τ : mL) : Option (Int32 × mS × mL) := (if σ 1 0 ≤ x1 then obd (Mo_allNull_f n 0 ((4 : Int32)) 0 σ τ) (fun r2 => obd (Mo_arrive_f n ((0 : Int32)) r2.2.1 r2.2.2) (fun r3 => (if r3.2.1 20 0 = 0 then (if r3.2.1 17 0 = 0 then obd (Mo_add_f n 0 (((-1) : Int32)) 0 0 0 r3.2.1 r3.2.2) (fun r6 => obd (Mo_allNull_f n 0 ((5 : Int32)) 0 r6.2.1 r6.2.2) (fun r7 => obd (Mo_arrive_f n ((1 : Int32)) r7.2.1 r7.2.2) (fun r8 => obd (Mo_keepExact_f n 0 ((0 : Int32)) 0 r8.2.1 r8.2.2) (fun r9 => (if xin ((0 : Int32)) 200 = true then bnd (su r9.2.1 32 (Int32.toNatClampNeg ((0 : Int32))) ((0 : Int32))) (fun s11 => some (0, s11, r9.2.2)) else none))))) else some (0, r3.2.1, r3.2.2)) else obd (Mo_let_f n 0 0 0 0 0 r3.2.1 r3.2.2) (fun r12 => (if r12.2.1 17 0 = 0 then obd (Mo_add_f n 0 (((-1) : Int32)) 0 0 0 r12.2.1 r12.2.2) (fun r14 => obd (Mo_allNull_f n 0 ((5 : Int32)) 0 r14.2.1 r14.2.2) (fun r15 => obd (Mo_arrive_f n ((1 : Int32)) r15.2.1 r15.2.2) (fun r16 => obd (Mo_keepExact_f n 0 ((0 : Int32)) 0 r16.2.1 r16.2.2) (fun r17 => (if xin ((0 : Int32)) 200 = true then bnd (su r17.2.1 32 (Int32.toNatClampNeg ((0 : Int32))) ((0 : Int32))) (fun s19 => some (0, s19, r17.2.2)) else none))))) else some (0, r12.2.1, r12.2.2)))))) else (if xin (x1) 3 = true then bnd (su σ 38 (Int32.toNatClampNeg (x1)) ((0 : Int32))) (fun s21 => f 2 (x1 + 1) s21 τ) else none))
def Mo_start_f : Nat → Nat → Int32 → mS → mL → Option (Int32 × mS × mL)
  | 0 => fun _ _ _ _ => none
  | n + 1 => fun p x1 σ τ => if p = 0 then Mo_start_t0 (Mo_start_f n) n x1 σ τ else if p = 2 then Mo_start_t2 (Mo_start_f n) n x1 σ τ else none
theorem Mo_start_e0 (n : Nat) (x1 : Int32) (σ : mS) (τ : mL) : Mo_start_f (n + 1) 0 x1 σ τ = Mo_start_t0 (Mo_start_f n) n x1 σ τ := by
  show (if 0 = 0 then Mo_start_t0 (Mo_start_f n) n x1 σ τ else if 0 = 2 then Mo_start_t2 (Mo_start_f n) n x1 σ τ else none) = _
  rw [if_pos rfl]
theorem Mo_start_e2 (n : Nat) (x1 : Int32) (σ : mS) (τ : mL) : Mo_start_f (n + 1) 2 x1 σ τ = Mo_start_t2 (Mo_start_f n) n x1 σ τ := by
  show (if 2 = 0 then Mo_start_t0 (Mo_start_f n) n x1 σ τ else if 2 = 2 then Mo_start_t2 (Mo_start_f n) n x1 σ τ else none) = _
  rw [if_neg (by decide), if_pos rfl]
set_option maxRecDepth 100000 in
set_option maxHeartbeats 8000000 in
theorem Mo_start_x {F : xF} {G : xG} {B : Nat} {M : xM} (C : xC F G B cMo_start RMo 2 6 135 0 0) (hr : (xFM F).sig.returnType = none) : ∀ (n : Nat) (x1 : Int32) (σ : mS) (τ : mL) (R : Int32 × mS × mL), (Mo_start_f n 0 x1 σ τ = some R → XM F G B (xZ F G B (mP M none R.2.1 R.2.2) 0 0) 2 M σ τ 0 [(0, .ref (M.1))] []) ∧ (Mo_start_f n 2 x1 σ τ = some R → XM F G B (xZ F G B (mP M none R.2.1 R.2.2) 0 0) 2 M σ τ 2 [(0, .ref (M.1)), (1, .int (x1))] []) := by
  intro n
  induction n with
  | zero => exact fun _ _ _ _ => ⟨(fun hR => nomatch (show (none : Option _) = some _ from hR)), (fun hR => nomatch (show (none : Option _) = some _ from hR))⟩
  | succ n ih =>
    intro x1 σ τ R
    refine ⟨fun hR => ?_, fun hR => ?_⟩
    · rw [Mo_start_e0] at hR
      unfold Mo_start_t0 at hR
      refine XM_iconst (v := 0) C dMo_start_0 rfl ?_
      refine XM_istore_n (lv' := [(1, .int ((0 : Int32))), (0, .ref (M.1))]) C dMo_start_1 (by decide) rfl ?_
      refine XM_sub (lv' := [(0, .ref (M.1)), (1, .int ((0 : Int32)))]) [1, 0] rfl ?_
      exact (ih ((0 : Int32)) _ _ _).2 hR
    · rw [Mo_start_e2] at hR
      unfold Mo_start_t2 at hR
      refine XM_iload_n C dMo_start_2 rfl ?_
      refine XM_aload_n C dMo_start_3 rfl ?_
      refine XM_get (k := 1) (v := .int (σ 1 0)) C rfl fwMo_128 dMo_start_4 ?_
      refine XM_icmp_ge (tgt := 23) C dMo_start_7 (by decide) (fun c1 => ?_) (fun c1 => ?_)
      · rw [if_pos c1] at hR
        refine XM_aload_n C dMo_start_23 rfl ?_
        refine XM_iconst (v := 4) C dMo_start_24 rfl ?_
        obtain ⟨r2, hr2, hR⟩ := o_bind hR
        refine XM_callVv (As := [.int ((4 : Int32))]) (rest := []) C (Mo_allNull_c hr2) wMo_257 ⟨by decide, by decide⟩ rfl rfl (Nat.le_of_ble_eq_true rfl) dMo_start_25 ?_
        refine XM_aload_n C dMo_start_28 rfl ?_
        refine XM_iconst (v := 0) C dMo_start_29 rfl ?_
        obtain ⟨r3, hr3, hR⟩ := o_bind hR
        refine XM_callVv (As := [.int ((0 : Int32))]) (rest := []) C (Mo_arrive_c hr3) wMo_208 ⟨by decide, by decide⟩ rfl rfl (Nat.le_of_ble_eq_true rfl) dMo_start_30 ?_
        refine XM_aload_n C dMo_start_33 rfl ?_
        refine XM_get (k := 20) (v := .int (r3.2.1 20 0)) C rfl fwMo_192 dMo_start_34 ?_
        refine XM_if_eq (tgt := 44) C dMo_start_37 (by decide) (fun c4 => ?_) (fun c4 => ?_)
        · rw [if_pos c4] at hR
          refine XM_aload_n C dMo_start_44 rfl ?_
          refine XM_get (k := 17) (v := .int (r3.2.1 17 0)) C rfl fwMo_167 dMo_start_45 ?_
          refine XM_if_eq (tgt := 52) C dMo_start_48 (by decide) (fun c5 => ?_) (fun c5 => ?_)
          · rw [if_pos c5] at hR
            refine XM_aload_n C dMo_start_52 rfl ?_
            refine XM_iconst (v := (-1)) C dMo_start_53 rfl ?_
            obtain ⟨r6, hr6, hR⟩ := o_bind hR
            refine XM_callVv (As := [.int (((-1) : Int32))]) (rest := []) C (Mo_add_c hr6) wMo_235 ⟨by decide, by decide⟩ rfl rfl (Nat.le_of_ble_eq_true rfl) dMo_start_54 ?_
            refine XM_aload_n C dMo_start_57 rfl ?_
            refine XM_iconst (v := 5) C dMo_start_58 rfl ?_
            obtain ⟨r7, hr7, hR⟩ := o_bind hR
            refine XM_callVv (As := [.int ((5 : Int32))]) (rest := []) C (Mo_allNull_c hr7) wMo_257 ⟨by decide, by decide⟩ rfl rfl (Nat.le_of_ble_eq_true rfl) dMo_start_59 ?_
            refine XM_aload_n C dMo_start_62 rfl ?_
            refine XM_iconst (v := 1) C dMo_start_63 rfl ?_
            obtain ⟨r8, hr8, hR⟩ := o_bind hR
            refine XM_callVv (As := [.int ((1 : Int32))]) (rest := []) C (Mo_arrive_c hr8) wMo_208 ⟨by decide, by decide⟩ rfl rfl (Nat.le_of_ble_eq_true rfl) dMo_start_64 ?_
            refine XM_aload_n C dMo_start_67 rfl ?_
            refine XM_iconst (v := 0) C dMo_start_68 rfl ?_
            obtain ⟨r9, hr9, hR⟩ := o_bind hR
            refine XM_callVv (As := [.int ((0 : Int32))]) (rest := []) C (Mo_keepExact_c hr9) wMo_238 ⟨by decide, by decide⟩ rfl rfl (Nat.le_of_ble_eq_true rfl) dMo_start_69 ?_
            refine XM_aload_n C dMo_start_72 rfl ?_
            refine XM_get (k := 32) (v := .ref (M.2.1 32)) C rfl fwMo_82 dMo_start_73 ?_
            refine XM_iconst (v := 0) C dMo_start_76 rfl ?_
            refine XM_iconst (v := 0) C dMo_start_77 rfl ?_
            obtain ⟨q10, hR⟩ := o_if hR
            refine XM_iast (k := 32) (n := 200) C rfl (xin_vp q10) dMo_start_78 ?_
            obtain ⟨s11, es11, hR⟩ := b_bnd hR
            rw [← es11]
            have hR := Option.some.inj hR
            subst hR
            exact XM_vret C hr dMo_start_79 rfl rfl rfl
          · rw [if_neg c5] at hR
            have hR := Option.some.inj hR
            subst hR
            exact XM_vret C hr dMo_start_51 rfl rfl rfl
        · rw [if_neg c4] at hR
          refine XM_aload_n C dMo_start_40 rfl ?_
          obtain ⟨r12, hr12, hR⟩ := o_bind hR
          refine XM_callVv (As := []) (rest := []) C (Mo_let_c hr12) wMo_219 ⟨by decide, by decide⟩ rfl rfl (Nat.le_of_ble_eq_true rfl) dMo_start_41 ?_
          refine XM_aload_n C dMo_start_44 rfl ?_
          refine XM_get (k := 17) (v := .int (r12.2.1 17 0)) C rfl fwMo_167 dMo_start_45 ?_
          refine XM_if_eq (tgt := 52) C dMo_start_48 (by decide) (fun c13 => ?_) (fun c13 => ?_)
          · rw [if_pos c13] at hR
            refine XM_aload_n C dMo_start_52 rfl ?_
            refine XM_iconst (v := (-1)) C dMo_start_53 rfl ?_
            obtain ⟨r14, hr14, hR⟩ := o_bind hR
            refine XM_callVv (As := [.int (((-1) : Int32))]) (rest := []) C (Mo_add_c hr14) wMo_235 ⟨by decide, by decide⟩ rfl rfl (Nat.le_of_ble_eq_true rfl) dMo_start_54 ?_
            refine XM_aload_n C dMo_start_57 rfl ?_
            refine XM_iconst (v := 5) C dMo_start_58 rfl ?_
            obtain ⟨r15, hr15, hR⟩ := o_bind hR
            refine XM_callVv (As := [.int ((5 : Int32))]) (rest := []) C (Mo_allNull_c hr15) wMo_257 ⟨by decide, by decide⟩ rfl rfl (Nat.le_of_ble_eq_true rfl) dMo_start_59 ?_
            refine XM_aload_n C dMo_start_62 rfl ?_
            refine XM_iconst (v := 1) C dMo_start_63 rfl ?_
            obtain ⟨r16, hr16, hR⟩ := o_bind hR
            refine XM_callVv (As := [.int ((1 : Int32))]) (rest := []) C (Mo_arrive_c hr16) wMo_208 ⟨by decide, by decide⟩ rfl rfl (Nat.le_of_ble_eq_true rfl) dMo_start_64 ?_
            refine XM_aload_n C dMo_start_67 rfl ?_
            refine XM_iconst (v := 0) C dMo_start_68 rfl ?_
            obtain ⟨r17, hr17, hR⟩ := o_bind hR
            refine XM_callVv (As := [.int ((0 : Int32))]) (rest := []) C (Mo_keepExact_c hr17) wMo_238 ⟨by decide, by decide⟩ rfl rfl (Nat.le_of_ble_eq_true rfl) dMo_start_69 ?_
            refine XM_aload_n C dMo_start_72 rfl ?_
            refine XM_get (k := 32) (v := .ref (M.2.1 32)) C rfl fwMo_82 dMo_start_73 ?_
            refine XM_iconst (v := 0) C dMo_start_76 rfl ?_
            refine XM_iconst (v := 0) C dMo_start_77 rfl ?_
            obtain ⟨q18, hR⟩ := o_if hR
            refine XM_iast (k := 32) (n := 200) C rfl (xin_vp q18) dMo_start_78 ?_
            obtain ⟨s19, es19, hR⟩ := b_bnd hR
            rw [← es19]
            have hR := Option.some.inj hR
            subst hR
            exact XM_vret C hr dMo_start_79 rfl rfl rfl
          · rw [if_neg c13] at hR
            have hR := Option.some.inj hR
            subst hR
            exact XM_vret C hr dMo_start_51 rfl rfl rfl
      · rw [if_neg c1] at hR
        refine XM_aload_n C dMo_start_10 rfl ?_
        refine XM_get (k := 38) (v := .ref (M.2.1 38)) C rfl fwMo_89 dMo_start_11 ?_
        refine XM_iload_n C dMo_start_14 rfl ?_
        refine XM_iconst (v := 0) C dMo_start_15 rfl ?_
        obtain ⟨q20, hR⟩ := o_if hR
        refine XM_iast (k := 38) (n := 3) C rfl (xin_vp q20) dMo_start_16 ?_
        obtain ⟨s21, es21, hR⟩ := b_bnd hR
        rw [← es21]
        refine XM_iinc (v := x1 + 1) (lv' := [(1, .int (x1 + 1)), (0, .ref (M.1))]) C dMo_start_17 rfl rfl (by decide) rfl ?_
        refine XM_goto (tgt := 2) C dMo_start_20 (by decide) ?_
        refine XM_sub (lv' := [(0, .ref (M.1)), (1, .int (x1 + 1))]) [1, 0] rfl ?_
        exact (ih (x1 + 1) _ _ _).2 hR
theorem Mo_start_c {l : Launch} {G : xG} {B : Nat} {M : xM} {n : Nat} {σ : mS} {τ : mL} {R : Int32 × mS × mL} (hR : Mo_start_f n 0 0 σ τ = some R) : mCon l yMo_start cMo_start 2 none 6 135 G B M [.ref M.1] σ τ none R.2.1 R.2.2 := mCon.of (by decide) (Nat.le_of_ble_eq_true rfl) (fun F e C hr => XM_sub (lv' := [(0, .ref (M.1))]) [0] rfl ((Mo_start_x C hr n 0 σ τ R).1 hR))
def Mo_walk_t0 (f : Nat → Int32 → Int32 → mS → mL → Option (Int32 × mS × mL)) (n : Nat) (x1 : Int32) (x2 : Int32) (σ : mS) (τ : mL) : Option (Int32 × mS × mL) := bnd (su σ 0 0 ((0 : Int32))) (fun s1 => (if s1 1 0 ≤ 0 then f 20 ((0 : Int32)) ((0 : Int32)) s1 τ else f 20 ((1 : Int32)) ((0 : Int32)) s1 τ))
def Mo_walk_t20 (f : Nat → Int32 → Int32 → mS → mL → Option (Int32 × mS × mL)) (n : Nat) (x1 : Int32) (x2 : Int32) (σ : mS) (τ : mL) : Option (Int32 × mS × mL) := (if σ 1 0 ≤ x2 then (if x1 = 0 then some (((-1) : Int32), σ, τ) else bnd (su σ 21 0 ((1 : Int32))) (fun s5 => bnd (su s5 36 0 (s5 1 0)) (fun s6 => bnd (su s6 22 0 ((0 : Int32))) (fun s7 => bnd (su s7 23 0 ((0 : Int32))) (fun s8 => bnd (su s8 34 0 ((0 : Int32))) (fun s9 => bnd (su s9 35 0 ((0 : Int32))) (fun s10 => bnd (su s10 37 0 ((0 : Int32))) (fun s11 => obd (Mo_findGreatest_f n 0 0 0 0 0 s11 τ) (fun r12 => obd (Mo_start_f n 0 0 r12.2.1 r12.2.2) (fun r13 => f 107 (x1) ((0 : Int32)) r13.2.1 r13.2.2)))))))))) else (if x1 = 0 then f 20 ((0 : Int32)) (x2 + 1) σ τ else (if xin (x2) 3 = true then (if σ 2 (Int32.toNatClampNeg (x2)) ≤ 0 then f 20 ((0 : Int32)) (x2 + 1) σ τ else f 20 ((1 : Int32)) (x2 + 1) σ τ) else none)))
def Mo_walk_t107 (f : Nat → Int32 → Int32 → mS → mL → Option (Int32 × mS × mL)) (n : Nat) (x1 : Int32) (x2 : Int32) (σ : mS) (τ : mL) : Option (Int32 × mS × mL) := (if σ 22 0 ≤ x2 then f 135 (x1) ((0 : Int32)) σ τ else (if σ 37 0 = 0 then obd (Mo_lookAt_f n 0 (x2) 0 0 σ τ) (fun r19 => f 107 (x1) (x2 + 1) r19.2.1 r19.2.2) else f 135 (x1) ((0 : Int32)) σ τ))
def Mo_walk_t135 (f : Nat → Int32 → Int32 → mS → mL → Option (Int32 × mS × mL)) (n : Nat) (x1 : Int32) (x2 : Int32) (σ : mS) (τ : mL) : Option (Int32 × mS × mL) := (if (3 : Int32) ≤ x2 then (if σ 37 0 = 0 then some (σ 22 0, σ, τ) else some ((((-2) : Int32)) - (σ 22 0), σ, τ)) else (if σ 20 0 = 0 then (if xin (x2) 3 = true then bnd (su σ 42 (Int32.toNatClampNeg (x2)) (((-2) : Int32))) (fun s24 => f 135 (x1) (x2 + 1) s24 τ) else none) else (if xin ((x2) + ((1 : Int32))) 4 = true then (if xin (x2) 3 = true then bnd (su σ 42 (Int32.toNatClampNeg (x2)) (σ 19 (Int32.toNatClampNeg ((x2) + ((1 : Int32)))))) (fun s27 => f 135 (x1) (x2 + 1) s27 τ) else none) else none)))
def Mo_walk_f : Nat → Nat → Int32 → Int32 → mS → mL → Option (Int32 × mS × mL)
  | 0 => fun _ _ _ _ _ => none
  | n + 1 => fun p x1 x2 σ τ => if p = 0 then Mo_walk_t0 (Mo_walk_f n) n x1 x2 σ τ else if p = 20 then Mo_walk_t20 (Mo_walk_f n) n x1 x2 σ τ else if p = 107 then Mo_walk_t107 (Mo_walk_f n) n x1 x2 σ τ else if p = 135 then Mo_walk_t135 (Mo_walk_f n) n x1 x2 σ τ else none
theorem Mo_walk_e0 (n : Nat) (x1 : Int32) (x2 : Int32) (σ : mS) (τ : mL) : Mo_walk_f (n + 1) 0 x1 x2 σ τ = Mo_walk_t0 (Mo_walk_f n) n x1 x2 σ τ := by
  show (if 0 = 0 then Mo_walk_t0 (Mo_walk_f n) n x1 x2 σ τ else if 0 = 20 then Mo_walk_t20 (Mo_walk_f n) n x1 x2 σ τ else if 0 = 107 then Mo_walk_t107 (Mo_walk_f n) n x1 x2 σ τ else if 0 = 135 then Mo_walk_t135 (Mo_walk_f n) n x1 x2 σ τ else none) = _
  rw [if_pos rfl]
theorem Mo_walk_e20 (n : Nat) (x1 : Int32) (x2 : Int32) (σ : mS) (τ : mL) : Mo_walk_f (n + 1) 20 x1 x2 σ τ = Mo_walk_t20 (Mo_walk_f n) n x1 x2 σ τ := by
  show (if 20 = 0 then Mo_walk_t0 (Mo_walk_f n) n x1 x2 σ τ else if 20 = 20 then Mo_walk_t20 (Mo_walk_f n) n x1 x2 σ τ else if 20 = 107 then Mo_walk_t107 (Mo_walk_f n) n x1 x2 σ τ else if 20 = 135 then Mo_walk_t135 (Mo_walk_f n) n x1 x2 σ τ else none) = _
  rw [if_neg (by decide), if_pos rfl]
theorem Mo_walk_e107 (n : Nat) (x1 : Int32) (x2 : Int32) (σ : mS) (τ : mL) : Mo_walk_f (n + 1) 107 x1 x2 σ τ = Mo_walk_t107 (Mo_walk_f n) n x1 x2 σ τ := by
  show (if 107 = 0 then Mo_walk_t0 (Mo_walk_f n) n x1 x2 σ τ else if 107 = 20 then Mo_walk_t20 (Mo_walk_f n) n x1 x2 σ τ else if 107 = 107 then Mo_walk_t107 (Mo_walk_f n) n x1 x2 σ τ else if 107 = 135 then Mo_walk_t135 (Mo_walk_f n) n x1 x2 σ τ else none) = _
  rw [if_neg (by decide), if_neg (by decide), if_pos rfl]
theorem Mo_walk_e135 (n : Nat) (x1 : Int32) (x2 : Int32) (σ : mS) (τ : mL) : Mo_walk_f (n + 1) 135 x1 x2 σ τ = Mo_walk_t135 (Mo_walk_f n) n x1 x2 σ τ := by
  show (if 135 = 0 then Mo_walk_t0 (Mo_walk_f n) n x1 x2 σ τ else if 135 = 20 then Mo_walk_t20 (Mo_walk_f n) n x1 x2 σ τ else if 135 = 107 then Mo_walk_t107 (Mo_walk_f n) n x1 x2 σ τ else if 135 = 135 then Mo_walk_t135 (Mo_walk_f n) n x1 x2 σ τ else none) = _
  rw [if_neg (by decide), if_neg (by decide), if_neg (by decide), if_pos rfl]
set_option maxRecDepth 100000 in
set_option maxHeartbeats 8000000 in
theorem Mo_walk_x {F : xF} {G : xG} {B : Nat} {M : xM} (C : xC F G B cMo_walk RMo 3 10 236 0 0) (hr : (xFM F).sig.returnType = (some .int)) : ∀ (n : Nat) (x1 : Int32) (x2 : Int32) (σ : mS) (τ : mL) (R : Int32 × mS × mL), (Mo_walk_f n 0 x1 x2 σ τ = some R → XM F G B (xZ F G B (mP M (some (.int R.1)) R.2.1 R.2.2) 0 0) 3 M σ τ 0 [(0, .ref (M.1))] []) ∧ (Mo_walk_f n 20 x1 x2 σ τ = some R → XM F G B (xZ F G B (mP M (some (.int R.1)) R.2.1 R.2.2) 0 0) 3 M σ τ 20 [(0, .ref (M.1)), (1, .int (x1)), (2, .int (x2))] []) ∧ (Mo_walk_f n 107 x1 x2 σ τ = some R → XM F G B (xZ F G B (mP M (some (.int R.1)) R.2.1 R.2.2) 0 0) 3 M σ τ 107 [(0, .ref (M.1)), (1, .int (x1)), (2, .int (x2))] []) ∧ (Mo_walk_f n 135 x1 x2 σ τ = some R → XM F G B (xZ F G B (mP M (some (.int R.1)) R.2.1 R.2.2) 0 0) 3 M σ τ 135 [(0, .ref (M.1)), (1, .int (x1)), (2, .int (x2))] []) := by
  intro n
  induction n with
  | zero => exact fun _ _ _ _ _ => ⟨(fun hR => nomatch (show (none : Option _) = some _ from hR)), (fun hR => nomatch (show (none : Option _) = some _ from hR)), (fun hR => nomatch (show (none : Option _) = some _ from hR)), (fun hR => nomatch (show (none : Option _) = some _ from hR))⟩
  | succ n ih =>
    intro x1 x2 σ τ R
    refine ⟨fun hR => ?_, fun hR => ?_, fun hR => ?_, fun hR => ?_⟩
    · rw [Mo_walk_e0] at hR
      unfold Mo_walk_t0 at hR
      refine XM_aload_n C dMo_walk_0 rfl ?_
      refine XM_iconst (v := 0) C dMo_walk_1 rfl ?_
      refine XM_put (k := 0) C rfl fwMo_124 rfl rfl rfl dMo_walk_2 ?_
      obtain ⟨s1, es1, hR⟩ := b_bnd hR
      rw [← es1]
      refine XM_aload_n C dMo_walk_5 rfl ?_
      refine XM_get (k := 1) (v := .int (s1 1 0)) C rfl fwMo_128 dMo_walk_6 ?_
      refine XM_if_le (tgt := 16) C dMo_walk_9 (by decide) (fun c2 => ?_) (fun c2 => ?_)
      · rw [if_pos c2] at hR
        refine XM_iconst (v := 0) C dMo_walk_16 rfl ?_
        refine XM_istore_n (lv' := [(1, .int ((0 : Int32))), (0, .ref (M.1))]) C dMo_walk_17 (by decide) rfl ?_
        refine XM_iconst (v := 0) C dMo_walk_18 rfl ?_
        refine XM_istore_n (lv' := [(2, .int ((0 : Int32))), (1, .int ((0 : Int32))), (0, .ref (M.1))]) C dMo_walk_19 (by decide) rfl ?_
        refine XM_sub (lv' := [(0, .ref (M.1)), (1, .int ((0 : Int32))), (2, .int ((0 : Int32)))]) [2, 1, 0] rfl ?_
        exact (ih ((0 : Int32)) ((0 : Int32)) _ _ _).2.1 hR
      · rw [if_neg c2] at hR
        refine XM_iconst (v := 1) C dMo_walk_12 rfl ?_
        refine XM_goto (tgt := 17) C dMo_walk_13 (by decide) ?_
        refine XM_istore_n (lv' := [(1, .int ((1 : Int32))), (0, .ref (M.1))]) C dMo_walk_17 (by decide) rfl ?_
        refine XM_iconst (v := 0) C dMo_walk_18 rfl ?_
        refine XM_istore_n (lv' := [(2, .int ((0 : Int32))), (1, .int ((1 : Int32))), (0, .ref (M.1))]) C dMo_walk_19 (by decide) rfl ?_
        refine XM_sub (lv' := [(0, .ref (M.1)), (1, .int ((1 : Int32))), (2, .int ((0 : Int32)))]) [2, 1, 0] rfl ?_
        exact (ih ((1 : Int32)) ((0 : Int32)) _ _ _).2.1 hR
    · rw [Mo_walk_e20] at hR
      unfold Mo_walk_t20 at hR
      refine XM_iload_n C dMo_walk_20 rfl ?_
      refine XM_aload_n C dMo_walk_21 rfl ?_
      refine XM_get (k := 1) (v := .int (σ 1 0)) C rfl fwMo_128 dMo_walk_22 ?_
      refine XM_icmp_ge (tgt := 53) C dMo_walk_25 (by decide) (fun c3 => ?_) (fun c3 => ?_)
      · rw [if_pos c3] at hR
        refine XM_iload_n C dMo_walk_53 rfl ?_
        refine XM_if_ne (tgt := 59) C dMo_walk_54 (by decide) (fun c4 => ?_) (fun c4 => ?_)
        · rw [if_neg c4] at hR
          refine XM_aload_n C dMo_walk_59 rfl ?_
          refine XM_iconst (v := 1) C dMo_walk_60 rfl ?_
          refine XM_put (k := 21) C rfl fwMo_260 rfl rfl rfl dMo_walk_61 ?_
          obtain ⟨s5, es5, hR⟩ := b_bnd hR
          rw [← es5]
          refine XM_aload_n C dMo_walk_64 rfl ?_
          refine XM_aload_n C dMo_walk_65 rfl ?_
          refine XM_get (k := 1) (v := .int (s5 1 0)) C rfl fwMo_128 dMo_walk_66 ?_
          refine XM_put (k := 36) C rfl fwMo_263 rfl rfl rfl dMo_walk_69 ?_
          obtain ⟨s6, es6, hR⟩ := b_bnd hR
          rw [← es6]
          refine XM_aload_n C dMo_walk_72 rfl ?_
          refine XM_iconst (v := 0) C dMo_walk_73 rfl ?_
          refine XM_put (k := 22) C rfl fwMo_199 rfl rfl rfl dMo_walk_74 ?_
          obtain ⟨s7, es7, hR⟩ := b_bnd hR
          rw [← es7]
          refine XM_aload_n C dMo_walk_77 rfl ?_
          refine XM_iconst (v := 0) C dMo_walk_78 rfl ?_
          refine XM_put (k := 23) C rfl fwMo_254 rfl rfl rfl dMo_walk_79 ?_
          obtain ⟨s8, es8, hR⟩ := b_bnd hR
          rw [← es8]
          refine XM_aload_n C dMo_walk_82 rfl ?_
          refine XM_iconst (v := 0) C dMo_walk_83 rfl ?_
          refine XM_put (k := 34) C rfl fwMo_248 rfl rfl rfl dMo_walk_84 ?_
          obtain ⟨s9, es9, hR⟩ := b_bnd hR
          rw [← es9]
          refine XM_aload_n C dMo_walk_87 rfl ?_
          refine XM_iconst (v := 0) C dMo_walk_88 rfl ?_
          refine XM_put (k := 35) C rfl fwMo_251 rfl rfl rfl dMo_walk_89 ?_
          obtain ⟨s10, es10, hR⟩ := b_bnd hR
          rw [← es10]
          refine XM_aload_n C dMo_walk_92 rfl ?_
          refine XM_iconst (v := 0) C dMo_walk_93 rfl ?_
          refine XM_put (k := 37) C rfl fwMo_232 rfl rfl rfl dMo_walk_94 ?_
          obtain ⟨s11, es11, hR⟩ := b_bnd hR
          rw [← es11]
          refine XM_aload_n C dMo_walk_97 rfl ?_
          obtain ⟨r12, hr12, hR⟩ := o_bind hR
          refine XM_callVv (As := []) (rest := []) C (Mo_findGreatest_c hr12) wMo_266 ⟨by decide, by decide⟩ rfl rfl (Nat.le_of_ble_eq_true rfl) dMo_walk_98 ?_
          refine XM_aload_n C dMo_walk_101 rfl ?_
          obtain ⟨r13, hr13, hR⟩ := o_bind hR
          refine XM_callVv (As := []) (rest := []) C (Mo_start_c hr13) wMo_269 ⟨by decide, by decide⟩ rfl rfl (Nat.le_of_ble_eq_true rfl) dMo_walk_102 ?_
          refine XM_iconst (v := 0) C dMo_walk_105 rfl ?_
          refine XM_istore_n (lv' := [(2, .int ((0 : Int32))), (0, .ref (M.1)), (1, .int (x1))]) C dMo_walk_106 (by decide) rfl ?_
          refine XM_sub (lv' := [(0, .ref (M.1)), (1, .int (x1)), (2, .int ((0 : Int32)))]) [1, 2, 0] rfl ?_
          exact (ih (x1) ((0 : Int32)) _ _ _).2.2.1 hR
        · rw [if_pos c4] at hR
          refine XM_iconst (v := (-1)) C dMo_walk_57 rfl ?_
          have hR := Option.some.inj hR
          subst hR
          exact XM_iret C hr dMo_walk_58 rfl rfl rfl
      · rw [if_neg c3] at hR
        refine XM_iload_n C dMo_walk_28 rfl ?_
        refine XM_if_eq (tgt := 45) C dMo_walk_29 (by decide) (fun c14 => ?_) (fun c14 => ?_)
        · rw [if_pos c14] at hR
          refine XM_iconst (v := 0) C dMo_walk_45 rfl ?_
          refine XM_istore_n (lv' := [(1, .int ((0 : Int32))), (0, .ref (M.1)), (2, .int (x2))]) C dMo_walk_46 (by decide) rfl ?_
          refine XM_iinc (v := x2 + 1) (lv' := [(2, .int (x2 + 1)), (1, .int ((0 : Int32))), (0, .ref (M.1))]) C dMo_walk_47 rfl rfl (by decide) rfl ?_
          refine XM_goto (tgt := 20) C dMo_walk_50 (by decide) ?_
          refine XM_sub (lv' := [(0, .ref (M.1)), (1, .int ((0 : Int32))), (2, .int (x2 + 1))]) [2, 1, 0] rfl ?_
          exact (ih ((0 : Int32)) (x2 + 1) _ _ _).2.1 hR
        · rw [if_neg c14] at hR
          refine XM_aload_n C dMo_walk_32 rfl ?_
          refine XM_get (k := 2) (v := .ref (M.2.1 2)) C rfl fwMo_7 dMo_walk_33 ?_
          refine XM_iload_n C dMo_walk_36 rfl ?_
          obtain ⟨q15, hR⟩ := o_if hR
          refine XM_iald (k := 2) (n := 3) C rfl (xin_vp q15) dMo_walk_37 ?_
          refine XM_if_le (tgt := 45) C dMo_walk_38 (by decide) (fun c16 => ?_) (fun c16 => ?_)
          · rw [if_pos c16] at hR
            refine XM_iconst (v := 0) C dMo_walk_45 rfl ?_
            refine XM_istore_n (lv' := [(1, .int ((0 : Int32))), (0, .ref (M.1)), (2, .int (x2))]) C dMo_walk_46 (by decide) rfl ?_
            refine XM_iinc (v := x2 + 1) (lv' := [(2, .int (x2 + 1)), (1, .int ((0 : Int32))), (0, .ref (M.1))]) C dMo_walk_47 rfl rfl (by decide) rfl ?_
            refine XM_goto (tgt := 20) C dMo_walk_50 (by decide) ?_
            refine XM_sub (lv' := [(0, .ref (M.1)), (1, .int ((0 : Int32))), (2, .int (x2 + 1))]) [2, 1, 0] rfl ?_
            exact (ih ((0 : Int32)) (x2 + 1) _ _ _).2.1 hR
          · rw [if_neg c16] at hR
            refine XM_iconst (v := 1) C dMo_walk_41 rfl ?_
            refine XM_goto (tgt := 46) C dMo_walk_42 (by decide) ?_
            refine XM_istore_n (lv' := [(1, .int ((1 : Int32))), (0, .ref (M.1)), (2, .int (x2))]) C dMo_walk_46 (by decide) rfl ?_
            refine XM_iinc (v := x2 + 1) (lv' := [(2, .int (x2 + 1)), (1, .int ((1 : Int32))), (0, .ref (M.1))]) C dMo_walk_47 rfl rfl (by decide) rfl ?_
            refine XM_goto (tgt := 20) C dMo_walk_50 (by decide) ?_
            refine XM_sub (lv' := [(0, .ref (M.1)), (1, .int ((1 : Int32))), (2, .int (x2 + 1))]) [2, 1, 0] rfl ?_
            exact (ih ((1 : Int32)) (x2 + 1) _ _ _).2.1 hR
    · rw [Mo_walk_e107] at hR
      unfold Mo_walk_t107 at hR
      refine XM_iload_n C dMo_walk_107 rfl ?_
      refine XM_aload_n C dMo_walk_108 rfl ?_
      refine XM_get (k := 22) (v := .int (σ 22 0)) C rfl fwMo_199 dMo_walk_109 ?_
      refine XM_icmp_ge (tgt := 133) C dMo_walk_112 (by decide) (fun c17 => ?_) (fun c17 => ?_)
      · rw [if_pos c17] at hR
        refine XM_iconst (v := 0) C dMo_walk_133 rfl ?_
        refine XM_istore_n (lv' := [(2, .int ((0 : Int32))), (0, .ref (M.1)), (1, .int (x1))]) C dMo_walk_134 (by decide) rfl ?_
        refine XM_sub (lv' := [(0, .ref (M.1)), (1, .int (x1)), (2, .int ((0 : Int32)))]) [1, 2, 0] rfl ?_
        exact (ih (x1) ((0 : Int32)) _ _ _).2.2.2 hR
      · rw [if_neg c17] at hR
        refine XM_aload_n C dMo_walk_115 rfl ?_
        refine XM_get (k := 37) (v := .int (σ 37 0)) C rfl fwMo_232 dMo_walk_116 ?_
        refine XM_if_ne (tgt := 133) C dMo_walk_119 (by decide) (fun c18 => ?_) (fun c18 => ?_)
        · rw [if_neg c18] at hR
          refine XM_iconst (v := 0) C dMo_walk_133 rfl ?_
          refine XM_istore_n (lv' := [(2, .int ((0 : Int32))), (0, .ref (M.1)), (1, .int (x1))]) C dMo_walk_134 (by decide) rfl ?_
          refine XM_sub (lv' := [(0, .ref (M.1)), (1, .int (x1)), (2, .int ((0 : Int32)))]) [1, 2, 0] rfl ?_
          exact (ih (x1) ((0 : Int32)) _ _ _).2.2.2 hR
        · rw [if_pos c18] at hR
          refine XM_aload_n C dMo_walk_122 rfl ?_
          refine XM_iload_n C dMo_walk_123 rfl ?_
          obtain ⟨r19, hr19, hR⟩ := o_bind hR
          refine XM_callVv (As := [.int (x2)]) (rest := []) C (Mo_lookAt_c hr19) wMo_272 ⟨by decide, by decide⟩ rfl rfl (Nat.le_of_ble_eq_true rfl) dMo_walk_124 ?_
          refine XM_iinc (v := x2 + 1) (lv' := [(2, .int (x2 + 1)), (0, .ref (M.1)), (1, .int (x1))]) C dMo_walk_127 rfl rfl (by decide) rfl ?_
          refine XM_goto (tgt := 107) C dMo_walk_130 (by decide) ?_
          refine XM_sub (lv' := [(0, .ref (M.1)), (1, .int (x1)), (2, .int (x2 + 1))]) [1, 2, 0] rfl ?_
          exact (ih (x1) (x2 + 1) _ _ _).2.2.1 hR
    · rw [Mo_walk_e135] at hR
      unfold Mo_walk_t135 at hR
      refine XM_iload_n C dMo_walk_135 rfl ?_
      refine XM_iconst (v := 3) C dMo_walk_136 rfl ?_
      refine XM_icmp_ge (tgt := 172) C dMo_walk_137 (by decide) (fun c20 => ?_) (fun c20 => ?_)
      · rw [if_pos c20] at hR
        refine XM_aload_n C dMo_walk_172 rfl ?_
        refine XM_get (k := 37) (v := .int (σ 37 0)) C rfl fwMo_232 dMo_walk_173 ?_
        refine XM_if_eq (tgt := 189) C dMo_walk_176 (by decide) (fun c21 => ?_) (fun c21 => ?_)
        · rw [if_pos c21] at hR
          refine XM_aload_n C dMo_walk_189 rfl ?_
          refine XM_get (k := 22) (v := .int (σ 22 0)) C rfl fwMo_199 dMo_walk_190 ?_
          have hR := Option.some.inj hR
          subst hR
          exact XM_iret C hr dMo_walk_193 rfl rfl rfl
        · rw [if_neg c21] at hR
          refine XM_bipush (v := (-2)) C dMo_walk_179 (by decide) ?_
          refine XM_aload_n C dMo_walk_181 rfl ?_
          refine XM_get (k := 22) (v := .int (σ 22 0)) C rfl fwMo_199 dMo_walk_182 ?_
          refine XM_isub C dMo_walk_185 ?_
          refine XM_goto (tgt := 193) C dMo_walk_186 (by decide) ?_
          have hR := Option.some.inj hR
          subst hR
          exact XM_iret C hr dMo_walk_193 rfl rfl rfl
      · rw [if_neg c20] at hR
        refine XM_aload_n C dMo_walk_140 rfl ?_
        refine XM_get (k := 42) (v := .ref (M.2.1 42)) C rfl fwMo_92 dMo_walk_141 ?_
        refine XM_iload_n C dMo_walk_144 rfl ?_
        refine XM_aload_n C dMo_walk_145 rfl ?_
        refine XM_get (k := 20) (v := .int (σ 20 0)) C rfl fwMo_192 dMo_walk_146 ?_
        refine XM_if_eq (tgt := 163) C dMo_walk_149 (by decide) (fun c22 => ?_) (fun c22 => ?_)
        · rw [if_pos c22] at hR
          refine XM_bipush (v := (-2)) C dMo_walk_163 (by decide) ?_
          obtain ⟨q23, hR⟩ := o_if hR
          refine XM_iast (k := 42) (n := 3) C rfl (xin_vp q23) dMo_walk_165 ?_
          obtain ⟨s24, es24, hR⟩ := b_bnd hR
          rw [← es24]
          refine XM_iinc (v := x2 + 1) (lv' := [(2, .int (x2 + 1)), (0, .ref (M.1)), (1, .int (x1))]) C dMo_walk_166 rfl rfl (by decide) rfl ?_
          refine XM_goto (tgt := 135) C dMo_walk_169 (by decide) ?_
          refine XM_sub (lv' := [(0, .ref (M.1)), (1, .int (x1)), (2, .int (x2 + 1))]) [1, 2, 0] rfl ?_
          exact (ih (x1) (x2 + 1) _ _ _).2.2.2 hR
        · rw [if_neg c22] at hR
          refine XM_aload_n C dMo_walk_152 rfl ?_
          refine XM_get (k := 19) (v := .ref (M.2.1 19)) C rfl fwMo_55 dMo_walk_153 ?_
          refine XM_iload_n C dMo_walk_156 rfl ?_
          refine XM_iconst (v := 1) C dMo_walk_157 rfl ?_
          refine XM_iadd C dMo_walk_158 ?_
          obtain ⟨q25, hR⟩ := o_if hR
          refine XM_iald (k := 19) (n := 4) C rfl (xin_vp q25) dMo_walk_159 ?_
          refine XM_goto (tgt := 165) C dMo_walk_160 (by decide) ?_
          obtain ⟨q26, hR⟩ := o_if hR
          refine XM_iast (k := 42) (n := 3) C rfl (xin_vp q26) dMo_walk_165 ?_
          obtain ⟨s27, es27, hR⟩ := b_bnd hR
          rw [← es27]
          refine XM_iinc (v := x2 + 1) (lv' := [(2, .int (x2 + 1)), (0, .ref (M.1)), (1, .int (x1))]) C dMo_walk_166 rfl rfl (by decide) rfl ?_
          refine XM_goto (tgt := 135) C dMo_walk_169 (by decide) ?_
          refine XM_sub (lv' := [(0, .ref (M.1)), (1, .int (x1)), (2, .int (x2 + 1))]) [1, 2, 0] rfl ?_
          exact (ih (x1) (x2 + 1) _ _ _).2.2.2 hR
theorem Mo_walk_c {l : Launch} {G : xG} {B : Nat} {M : xM} {n : Nat} {σ : mS} {τ : mL} {R : Int32 × mS × mL} (hR : Mo_walk_f n 0 0 0 σ τ = some R) : mCon l yMo_walk cMo_walk 3 (some .int) 10 236 G B M [.ref M.1] σ τ (some (.int R.1)) R.2.1 R.2.2 := mCon.of (by decide) (Nat.le_of_ble_eq_true rfl) (fun F e C hr => XM_sub (lv' := [(0, .ref (M.1))]) [0] rfl ((Mo_walk_x C hr n 0 0 σ τ R).1 hR))
