def Ya_isCovered_t0 (f : Nat → Int32 → xH → Option (Int32 × xH)) (n : Nat) (o : Nat) (x1 : Int32) (h : xH) : Option (Int32 × xH) := f 2 ((0 : Int32)) h
def Ya_isCovered_t2 (f : Nat → Int32 → xH → Option (Int32 × xH)) (n : Nat) (o : Nat) (x1 : Int32) (h : xH) : Option (Int32 × xH) := obd (gi h (o) 3 3) (fun u1 => (if u1 ≤ x1 then some ((0 : Int32), h) else (if kc h (o) 3 = true then obd (Ya_stateAt_f n (o) (x1) h) (fun r7 => bnd (r7.1) (fun w8 => oel (w8) (f 2 (x1 + 1) r7.2) (fun a10 => obd (gq r7.2 (o) 3 10) (fun w12 => (if kc r7.2 (a10) 2 = true then obd (St_standsAt_f n 0 (a10) (w12) 0 r7.2) (fun r17 => (if r17.1 = 0 then f 2 (x1 + 1) r17.2 else obd (gq r17.2 (o) 3 11) (fun w19 => obd (gq r17.2 (a10) 2 3) (fun w24 => obd w19 (fun a29 => (if kc r17.2 (a29) 1 = true then obd (Zo_liesIn_f n 0 (a29) (w24) 0 r17.2) (fun r30 => (if r30.1 = 0 then f 2 (x1 + 1) r30.2 else some ((1 : Int32), r30.2))) else none)))))) else none))))) else none)))
def Ya_isCovered_f : Nat → Nat → Nat → Int32 → xH → Option (Int32 × xH)
  | 0 => fun _ _ _ _ => none
  | n + 1 => fun p o x1 h => if p = 0 then Ya_isCovered_t0 (fun p x1 h => Ya_isCovered_f n p o x1 h) n o x1 h else if p = 2 then Ya_isCovered_t2 (fun p x1 h => Ya_isCovered_f n p o x1 h) n o x1 h else none
theorem Ya_isCovered_e0 (n : Nat) (o : Nat) (x1 : Int32) (h : xH) : Ya_isCovered_f (n + 1) 0 o x1 h = Ya_isCovered_t0 (fun p x1 h => Ya_isCovered_f n p o x1 h) n o x1 h := by
  show (if 0 = 0 then Ya_isCovered_t0 (fun p x1 h => Ya_isCovered_f n p o x1 h) n o x1 h else if 0 = 2 then Ya_isCovered_t2 (fun p x1 h => Ya_isCovered_f n p o x1 h) n o x1 h else none) = _
  rw [if_pos rfl]
theorem Ya_isCovered_e2 (n : Nat) (o : Nat) (x1 : Int32) (h : xH) : Ya_isCovered_f (n + 1) 2 o x1 h = Ya_isCovered_t2 (fun p x1 h => Ya_isCovered_f n p o x1 h) n o x1 h := by
  show (if 2 = 0 then Ya_isCovered_t0 (fun p x1 h => Ya_isCovered_f n p o x1 h) n o x1 h else if 2 = 2 then Ya_isCovered_t2 (fun p x1 h => Ya_isCovered_f n p o x1 h) n o x1 h else none) = _
  rw [if_neg (by decide), if_pos rfl]
set_option maxRecDepth 100000 in
set_option maxHeartbeats 8000000 in
theorem Ya_isCovered_x {F : xF} {G : xG} {B sz : Nat} {o : Nat} (C : xC F G B cYa_isCovered RYa 3 1 22 0 0) (hr : (xFM F).sig.returnType = (some .boolean)) : ∀ (n : Nat) (x1 : Int32) (h : xH) (R : Int32 × xH), (Ya_isCovered_f n 0 o x1 h = some R → X F G B (xZ F G B (kP (some (.int R.1)) R.2 sz) 0 0) 3 h sz 0 0 0 [(0, .ref (o))] []) ∧ (Ya_isCovered_f n 2 o x1 h = some R → X F G B (xZ F G B (kP (some (.int R.1)) R.2 sz) 0 0) 3 h sz 0 0 2 [(0, .ref (o)), (1, .int (x1))] []) := by
  intro n
  induction n with
  | zero => exact fun _ _ _ => ⟨(fun hR => nomatch (show (none : Option _) = some _ from hR)), (fun hR => nomatch (show (none : Option _) = some _ from hR))⟩
  | succ n ih =>
    intro x1 h R
    refine ⟨fun hR => ?_, fun hR => ?_⟩
    · rw [Ya_isCovered_e0] at hR
      unfold Ya_isCovered_t0 at hR
      refine X_iconst (v := 0) C dYa_isCovered_0 rfl ?_
      refine X_istore_n (lv' := [(1, .int ((0 : Int32))), (0, .ref (o))]) C dYa_isCovered_1 (by decide) rfl ?_
      refine X_sub (lv' := [(0, .ref (o)), (1, .int ((0 : Int32)))]) [1, 0] rfl ?_
      exact (ih ((0 : Int32)) _ _).2 hR
    · rw [Ya_isCovered_e2] at hR
      unfold Ya_isCovered_t2 at hR
      refine X_iload_n C dYa_isCovered_2 rfl ?_
      refine X_aload_n C dYa_isCovered_3 rfl ?_
      have hq := o_bind hR
      clear hR
      obtain ⟨u1, hx5, hR⟩ := hq
      obtain ⟨fs2, he3, hv4⟩ := gi_e hx5
      refine X_get (k := 3) C oYa fwYa_65 he3 hv4 dYa_isCovered_4 ?_
      refine X_icmp_ge (tgt := 53) C dYa_isCovered_7 (by decide) (fun c6 => ?_) (fun c6 => ?_)
      · rw [if_pos c6] at hR
        refine X_iconst (v := 0) C dYa_isCovered_53 rfl ?_
        rw [← Option.some.inj hR]
        exact X_zret C hr rfl (Nat.le_refl _) (Nat.le_refl _) dYa_isCovered_54 ⟨rfl, rfl, rfl⟩
      · rw [if_neg c6] at hR
        refine X_aload_n C dYa_isCovered_10 rfl ?_
        refine X_iload_n C dYa_isCovered_11 rfl ?_
        have hq := o_if hR
        clear hR
        obtain ⟨k38, hR⟩ := hq
        obtain ⟨fs39, he40⟩ := kc_e k38
        have hq := o_bind hR
        clear hR
        obtain ⟨r7, hr7, hR⟩ := hq
        refine X_callVk (As := [.int (x1)]) (rest := []) C (Ya_stateAt_c hr7) wYa_236 ⟨by decide, by decide⟩ ⟨Nat.le_refl _, Nat.le_refl _⟩ he40 oYa.2.1 rfl rfl (Nat.le_of_ble_eq_true rfl) dYa_isCovered_12 ?_
        show X F G B _ 3 (r7.2) _ _ _ _ _ [va_rf (r7.1)]
        have hq := b_bnd hR
        clear hR
        obtain ⟨w8, e9, hR⟩ := hq
        rw [← e9]
        refine X_astore_nq (lv' := [(2, va_rf (w8)), (0, .ref (o)), (1, .int (x1))]) C dYa_isCovered_15 (by decide) rfl ?_
        refine X_aload_nq C dYa_isCovered_16 rfl ?_
        refine X_ifnullq (tgt := 47) C dYa_isCovered_17 (by decide) (fun e11 => ?_) (fun a10 e11 => ?_)
        · subst e11
          rw [oel_n] at hR
          refine X_iinc (v := x1 + 1) (lv' := [(1, .int (x1 + 1)), (2, .null), (0, .ref (o))]) C dYa_isCovered_47 rfl rfl (by decide) rfl ?_
          refine X_goto (tgt := 2) C dYa_isCovered_50 (by decide) ?_
          refine X_sub (lv' := [(0, .ref (o)), (1, .int (x1 + 1))]) [2, 0] rfl ?_
          exact (ih (x1 + 1) _ _).2 hR
        · subst e11
          rw [oel_s] at hR
          refine X_aload_n C dYa_isCovered_20 rfl ?_
          refine X_aload_n C dYa_isCovered_21 rfl ?_
          have hq := o_bind hR
          clear hR
          obtain ⟨w12, hx16, hR⟩ := hq
          obtain ⟨fs13, he14, hv15⟩ := gq_e hx16
          refine X_get (k := 10) C oYa fwYa_31 he14 hv15 dYa_isCovered_22 ?_
          have hq := o_if hR
          clear hR
          obtain ⟨k35, hR⟩ := hq
          obtain ⟨fs36, he37⟩ := kc_e k35
          have hq := o_bind hR
          clear hR
          obtain ⟨r17, hr17, hR⟩ := hq
          refine X_callVk (As := [va_rf (w12)]) (rest := []) C (St_standsAt_c hr17) wYa_240 ⟨by decide, by decide⟩ ⟨Nat.le_refl _, Nat.le_refl _⟩ he37 oSt.2.1 rfl rfl (Nat.le_of_ble_eq_true rfl) dYa_isCovered_25 ?_
          show X F G B _ 3 (r17.2) _ _ _ _ _ [.int (r17.1)]
          refine X_if_eq (tgt := 47) C dYa_isCovered_28 (by decide) (fun c18 => ?_) (fun c18 => ?_)
          · rw [if_pos c18] at hR
            refine X_iinc (v := x1 + 1) (lv' := [(1, .int (x1 + 1)), (2, .ref (a10)), (0, .ref (o))]) C dYa_isCovered_47 rfl rfl (by decide) rfl ?_
            refine X_goto (tgt := 2) C dYa_isCovered_50 (by decide) ?_
            refine X_sub (lv' := [(0, .ref (o)), (1, .int (x1 + 1))]) [2, 0] rfl ?_
            exact (ih (x1 + 1) _ _).2 hR
          · rw [if_neg c18] at hR
            refine X_aload_n C dYa_isCovered_31 rfl ?_
            have hq := o_bind hR
            clear hR
            obtain ⟨w19, hx23, hR⟩ := hq
            obtain ⟨fs20, he21, hv22⟩ := gq_e hx23
            refine X_get (k := 11) C oYa fwYa_39 he21 hv22 dYa_isCovered_32 ?_
            refine X_aload_n C dYa_isCovered_35 rfl ?_
            have hq := o_bind hR
            clear hR
            obtain ⟨w24, hx28, hR⟩ := hq
            obtain ⟨fs25, he26, hv27⟩ := gq_e hx28
            refine X_get (k := 3) C oSt fwYa_114 he26 hv27 dYa_isCovered_36 ?_
            have hq := o_bind hR
            clear hR
            obtain ⟨a29, rfl, hR⟩ := hq
            have hq := o_if hR
            clear hR
            obtain ⟨k32, hR⟩ := hq
            obtain ⟨fs33, he34⟩ := kc_e k32
            have hq := o_bind hR
            clear hR
            obtain ⟨r30, hr30, hR⟩ := hq
            refine X_callVk (As := [va_rf (w24)]) (rest := []) C (Zo_liesIn_c hr30) wYa_244 ⟨by decide, by decide⟩ ⟨Nat.le_refl _, Nat.le_refl _⟩ he34 oZo.2.1 rfl rfl (Nat.le_of_ble_eq_true rfl) dYa_isCovered_39 ?_
            show X F G B _ 3 (r30.2) _ _ _ _ _ [.int (r30.1)]
            refine X_if_eq (tgt := 47) C dYa_isCovered_42 (by decide) (fun c31 => ?_) (fun c31 => ?_)
            · rw [if_pos c31] at hR
              refine X_iinc (v := x1 + 1) (lv' := [(1, .int (x1 + 1)), (2, .ref (a10)), (0, .ref (o))]) C dYa_isCovered_47 rfl rfl (by decide) rfl ?_
              refine X_goto (tgt := 2) C dYa_isCovered_50 (by decide) ?_
              refine X_sub (lv' := [(0, .ref (o)), (1, .int (x1 + 1))]) [2, 0] rfl ?_
              exact (ih (x1 + 1) _ _).2 hR
            · rw [if_neg c31] at hR
              refine X_iconst (v := 1) C dYa_isCovered_45 rfl ?_
              rw [← Option.some.inj hR]
              exact X_zret C hr rfl (Nat.le_refl _) (Nat.le_refl _) dYa_isCovered_46 ⟨rfl, rfl, rfl⟩
theorem Ya_isCovered_c {l : Launch} {G : xG} {B sz : Nat} {o : Nat} {n : Nat} {h : xH} {R : Int32 × xH} (hR : Ya_isCovered_f n 0 o 0 h = some R) : xCon l yYa_isCovered cYa_isCovered 3 (some .boolean) 1 22 0 0 G B [.ref (o)] h sz (kP (some (.int R.1)) R.2 sz) := xCon.of (by decide) (by exact Nat.le_of_ble_eq_true rfl) (fun F e C hr _ => X_sub (lv' := [(0, .ref (o))]) [0] rfl ((Ya_isCovered_x C hr n 0 h R).1 hR))
def Ya_isLimited_t0 (f : Nat → Int32 → xH → Option (Int32 × xH)) (n : Nat) (o : Nat) (x1 : Int32) (h : xH) : Option (Int32 × xH) := f 2 ((0 : Int32)) h
def Ya_isLimited_t2 (f : Nat → Int32 → xH → Option (Int32 × xH)) (n : Nat) (o : Nat) (x1 : Int32) (h : xH) : Option (Int32 × xH) := obd (gi h (o) 3 1) (fun u1 => (if u1 ≤ x1 then some ((0 : Int32), h) else obd (gq h (o) 3 10) (fun w7 => obd w7 (fun a12 => obd (ai h (a12) 0 (x1)) (fun u13 => (if kc h (o) 3 = true then obd (Ya_placeAt_f n (o) (x1) (u13) h) (fun r20 => bnd (r20.1) (fun w21 => oel (w21) (f 2 (x1 + 1) r20.2) (fun a23 => obd (gi r20.2 (a23) 6 2) (fun u25 => (if u25 ≤ 0 then f 2 (x1 + 1) r20.2 else some ((1 : Int32), r20.2)))))) else none))))))
def Ya_isLimited_f : Nat → Nat → Nat → Int32 → xH → Option (Int32 × xH)
  | 0 => fun _ _ _ _ => none
  | n + 1 => fun p o x1 h => if p = 0 then Ya_isLimited_t0 (fun p x1 h => Ya_isLimited_f n p o x1 h) n o x1 h else if p = 2 then Ya_isLimited_t2 (fun p x1 h => Ya_isLimited_f n p o x1 h) n o x1 h else none
theorem Ya_isLimited_e0 (n : Nat) (o : Nat) (x1 : Int32) (h : xH) : Ya_isLimited_f (n + 1) 0 o x1 h = Ya_isLimited_t0 (fun p x1 h => Ya_isLimited_f n p o x1 h) n o x1 h := by
  show (if 0 = 0 then Ya_isLimited_t0 (fun p x1 h => Ya_isLimited_f n p o x1 h) n o x1 h else if 0 = 2 then Ya_isLimited_t2 (fun p x1 h => Ya_isLimited_f n p o x1 h) n o x1 h else none) = _
  rw [if_pos rfl]
theorem Ya_isLimited_e2 (n : Nat) (o : Nat) (x1 : Int32) (h : xH) : Ya_isLimited_f (n + 1) 2 o x1 h = Ya_isLimited_t2 (fun p x1 h => Ya_isLimited_f n p o x1 h) n o x1 h := by
  show (if 2 = 0 then Ya_isLimited_t0 (fun p x1 h => Ya_isLimited_f n p o x1 h) n o x1 h else if 2 = 2 then Ya_isLimited_t2 (fun p x1 h => Ya_isLimited_f n p o x1 h) n o x1 h else none) = _
  rw [if_neg (by decide), if_pos rfl]
set_option maxRecDepth 100000 in
set_option maxHeartbeats 8000000 in
theorem Ya_isLimited_x {F : xF} {G : xG} {B sz : Nat} {o : Nat} (C : xC F G B cYa_isLimited RYa 3 2 44 0 0) (hr : (xFM F).sig.returnType = (some .boolean)) : ∀ (n : Nat) (x1 : Int32) (h : xH) (R : Int32 × xH), (Ya_isLimited_f n 0 o x1 h = some R → X F G B (xZ F G B (kP (some (.int R.1)) R.2 sz) 0 0) 3 h sz 0 0 0 [(0, .ref (o))] []) ∧ (Ya_isLimited_f n 2 o x1 h = some R → X F G B (xZ F G B (kP (some (.int R.1)) R.2 sz) 0 0) 3 h sz 0 0 2 [(0, .ref (o)), (1, .int (x1))] []) := by
  intro n
  induction n with
  | zero => exact fun _ _ _ => ⟨(fun hR => nomatch (show (none : Option _) = some _ from hR)), (fun hR => nomatch (show (none : Option _) = some _ from hR))⟩
  | succ n ih =>
    intro x1 h R
    refine ⟨fun hR => ?_, fun hR => ?_⟩
    · rw [Ya_isLimited_e0] at hR
      unfold Ya_isLimited_t0 at hR
      refine X_iconst (v := 0) C dYa_isLimited_0 rfl ?_
      refine X_istore_n (lv' := [(1, .int ((0 : Int32))), (0, .ref (o))]) C dYa_isLimited_1 (by decide) rfl ?_
      refine X_sub (lv' := [(0, .ref (o)), (1, .int ((0 : Int32)))]) [1, 0] rfl ?_
      exact (ih ((0 : Int32)) _ _).2 hR
    · rw [Ya_isLimited_e2] at hR
      unfold Ya_isLimited_t2 at hR
      refine X_iload_n C dYa_isLimited_2 rfl ?_
      refine X_aload_n C dYa_isLimited_3 rfl ?_
      have hq := o_bind hR
      clear hR
      obtain ⟨u1, hx5, hR⟩ := hq
      obtain ⟨fs2, he3, hv4⟩ := gi_e hx5
      refine X_get (k := 1) C oYa fwYa_43 he3 hv4 dYa_isLimited_4 ?_
      refine X_icmp_ge (tgt := 41) C dYa_isLimited_7 (by decide) (fun c6 => ?_) (fun c6 => ?_)
      · rw [if_pos c6] at hR
        refine X_iconst (v := 0) C dYa_isLimited_41 rfl ?_
        rw [← Option.some.inj hR]
        exact X_zret C hr rfl (Nat.le_refl _) (Nat.le_refl _) dYa_isLimited_42 ⟨rfl, rfl, rfl⟩
      · rw [if_neg c6] at hR
        refine X_aload_n C dYa_isLimited_10 rfl ?_
        refine X_iload_n C dYa_isLimited_11 rfl ?_
        refine X_aload_n C dYa_isLimited_12 rfl ?_
        have hq := o_bind hR
        clear hR
        obtain ⟨w7, hx11, hR⟩ := hq
        obtain ⟨fs8, he9, hv10⟩ := gq_e hx11
        refine X_get (k := 10) C oYa fwYa_31 he9 hv10 dYa_isLimited_13 ?_
        refine X_iload_n C dYa_isLimited_16 rfl ?_
        have hq := o_bind hR
        clear hR
        obtain ⟨a12, rfl, hR⟩ := hq
        have hq := o_bind hR
        clear hR
        obtain ⟨u13, hx14, hR⟩ := hq
        obtain ⟨n15, f16, he17, hi18, e19⟩ := ai_e hx14
        refine X_iald C rfl he17 hi18 dYa_isLimited_17 ?_
        rw [← e19]
        have hq := o_if hR
        clear hR
        obtain ⟨k31, hR⟩ := hq
        obtain ⟨fs32, he33⟩ := kc_e k31
        have hq := o_bind hR
        clear hR
        obtain ⟨r20, hr20, hR⟩ := hq
        refine X_callVk (As := [.int (x1), .int (u13)]) (rest := []) C (Ya_placeAt_c hr20) wYa_68 ⟨by decide, by decide⟩ ⟨Nat.le_refl _, Nat.le_refl _⟩ he33 oYa.2.1 rfl rfl (Nat.le_of_ble_eq_true rfl) dYa_isLimited_18 ?_
        show X F G B _ 3 (r20.2) _ _ _ _ _ [va_rf (r20.1)]
        have hq := b_bnd hR
        clear hR
        obtain ⟨w21, e22, hR⟩ := hq
        rw [← e22]
        refine X_astore_nq (lv' := [(2, va_rf (w21)), (0, .ref (o)), (1, .int (x1))]) C dYa_isLimited_21 (by decide) rfl ?_
        refine X_aload_nq C dYa_isLimited_22 rfl ?_
        refine X_ifnullq (tgt := 35) C dYa_isLimited_23 (by decide) (fun e24 => ?_) (fun a23 e24 => ?_)
        · subst e24
          rw [oel_n] at hR
          refine X_iinc (v := x1 + 1) (lv' := [(1, .int (x1 + 1)), (2, .null), (0, .ref (o))]) C dYa_isLimited_35 rfl rfl (by decide) rfl ?_
          refine X_goto (tgt := 2) C dYa_isLimited_38 (by decide) ?_
          refine X_sub (lv' := [(0, .ref (o)), (1, .int (x1 + 1))]) [2, 0] rfl ?_
          exact (ih (x1 + 1) _ _).2 hR
        · subst e24
          rw [oel_s] at hR
          refine X_aload_n C dYa_isLimited_26 rfl ?_
          have hq := o_bind hR
          clear hR
          obtain ⟨u25, hx29, hR⟩ := hq
          obtain ⟨fs26, he27, hv28⟩ := gi_e hx29
          refine X_get (k := 2) C oPl fwYa_138 he27 hv28 dYa_isLimited_27 ?_
          refine X_if_le (tgt := 35) C dYa_isLimited_30 (by decide) (fun c30 => ?_) (fun c30 => ?_)
          · rw [if_pos c30] at hR
            refine X_iinc (v := x1 + 1) (lv' := [(1, .int (x1 + 1)), (2, .ref (a23)), (0, .ref (o))]) C dYa_isLimited_35 rfl rfl (by decide) rfl ?_
            refine X_goto (tgt := 2) C dYa_isLimited_38 (by decide) ?_
            refine X_sub (lv' := [(0, .ref (o)), (1, .int (x1 + 1))]) [2, 0] rfl ?_
            exact (ih (x1 + 1) _ _).2 hR
          · rw [if_neg c30] at hR
            refine X_iconst (v := 1) C dYa_isLimited_33 rfl ?_
            rw [← Option.some.inj hR]
            exact X_zret C hr rfl (Nat.le_refl _) (Nat.le_refl _) dYa_isLimited_34 ⟨rfl, rfl, rfl⟩
theorem Ya_isLimited_c {l : Launch} {G : xG} {B sz : Nat} {o : Nat} {n : Nat} {h : xH} {R : Int32 × xH} (hR : Ya_isLimited_f n 0 o 0 h = some R) : xCon l yYa_isLimited cYa_isLimited 3 (some .boolean) 2 44 0 0 G B [.ref (o)] h sz (kP (some (.int R.1)) R.2 sz) := xCon.of (by decide) (by exact Nat.le_of_ble_eq_true rfl) (fun F e C hr _ => X_sub (lv' := [(0, .ref (o))]) [0] rfl ((Ya_isLimited_x C hr n 0 h R).1 hR))
def Ya_leastTotal_f (n : Nat) (y0 : Option Nat) (h : xH) : Option (Int32 × xH) := obd y0 (fun a1 => (if kc h (a1) 1 = true then obd (Zo_at_f n (a1) ((0 : Int32)) ((4 : Int32)) h) (fun r2 => (if (r2.1) &&& ((1 : Int32)) = (1 : Int32) then some (((2 : Int32)) * (-((r2.1) >>> (((1 : Int32)) &&& 31))), r2.2) else some ((((2 : Int32)) * (-((r2.1) >>> (((1 : Int32)) &&& 31)))) + ((1 : Int32)), r2.2))) else none))
set_option maxRecDepth 100000 in
set_option maxHeartbeats 8000000 in
theorem Ya_leastTotal_x {F : xF} {G : xG} {B sz : Nat} (C : xC F G B cYa_leastTotal RYa 3 1 22 0 0) (hr : (xFM F).sig.returnType = (some .int)) {n : Nat} {y0 : Option Nat} {h : xH} {R : Int32 × xH} (hR : Ya_leastTotal_f n y0 h = some R) : X F G B (xZ F G B (kP (some (.int R.1)) R.2 sz) 0 0) 3 h sz 0 0 0 [(0, va_rf (y0))] [] := by
  unfold Ya_leastTotal_f at hR
  refine X_aload_nq C dYa_leastTotal_0 rfl ?_
  refine X_iconst (v := 0) C dYa_leastTotal_1 rfl ?_
  refine X_iconst (v := 4) C dYa_leastTotal_2 rfl ?_
  have hq := o_bind hR
  clear hR
  obtain ⟨a1, rfl, hR⟩ := hq
  have hq := o_if hR
  clear hR
  obtain ⟨k4, hR⟩ := hq
  obtain ⟨fs5, he6⟩ := kc_e k4
  have hq := o_bind hR
  clear hR
  obtain ⟨r2, hr2, hR⟩ := hq
  refine X_callVk (As := [.int ((0 : Int32)), .int ((4 : Int32))]) (rest := []) C (Zo_at_c hr2) wYa_266 ⟨by decide, by decide⟩ ⟨Nat.le_refl _, Nat.le_refl _⟩ he6 oZo.2.1 rfl rfl (Nat.le_of_ble_eq_true rfl) dYa_leastTotal_3 ?_
  show X F G B _ 3 (r2.2) _ _ _ _ _ [.int (r2.1)]
  refine X_istore_n (lv' := [(1, .int (r2.1)), (0, .ref (a1))]) C dYa_leastTotal_6 (by decide) rfl ?_
  refine X_iload_n C dYa_leastTotal_7 rfl ?_
  refine X_iconst (v := 1) C dYa_leastTotal_8 rfl ?_
  refine X_ishr C dYa_leastTotal_9 ?_
  refine X_ineg C dYa_leastTotal_10 ?_
  refine X_istore_n (lv' := [(2, .int (-((r2.1) >>> (((1 : Int32)) &&& 31)))), (1, .int (r2.1)), (0, .ref (a1))]) C dYa_leastTotal_11 (by decide) rfl ?_
  refine X_iload_n C dYa_leastTotal_12 rfl ?_
  refine X_iconst (v := 1) C dYa_leastTotal_13 rfl ?_
  refine X_iand C dYa_leastTotal_14 ?_
  refine X_iconst (v := 1) C dYa_leastTotal_15 rfl ?_
  refine X_icmp_ne (tgt := 25) C dYa_leastTotal_16 (by decide) (fun c3 => ?_) (fun c3 => ?_)
  · rw [if_neg c3] at hR
    refine X_iconst (v := 2) C dYa_leastTotal_25 rfl ?_
    refine X_iload_n C dYa_leastTotal_26 rfl ?_
    refine X_imul C dYa_leastTotal_27 ?_
    refine X_iconst (v := 1) C dYa_leastTotal_28 rfl ?_
    refine X_iadd C dYa_leastTotal_29 ?_
    rw [← Option.some.inj hR]
    exact X_iret C hr (Nat.le_refl _) (Nat.le_refl _) dYa_leastTotal_30 ⟨rfl, rfl, rfl⟩
  · rw [if_pos c3] at hR
    refine X_iconst (v := 2) C dYa_leastTotal_19 rfl ?_
    refine X_iload_n C dYa_leastTotal_20 rfl ?_
    refine X_imul C dYa_leastTotal_21 ?_
    refine X_goto (tgt := 30) C dYa_leastTotal_22 (by decide) ?_
    rw [← Option.some.inj hR]
    exact X_iret C hr (Nat.le_refl _) (Nat.le_refl _) dYa_leastTotal_30 ⟨rfl, rfl, rfl⟩
theorem Ya_leastTotal_c {l : Launch} {G : xG} {B sz : Nat} {n : Nat} {y0 : Option Nat} {h : xH} {R : Int32 × xH} (hR : Ya_leastTotal_f n y0 h = some R) : xCon l yYa_leastTotal cYa_leastTotal 3 (some .int) 1 22 0 0 G B [va_rf (y0)] h sz (kP (some (.int R.1)) R.2 sz) := xCon.of (by decide) (by simp [lg_sl, rf_cat, cat_i, cat_r, cat_l]) (fun F e C hr _ => X_sub (lv' := [(0, va_rf (y0))]) [0] (by simp [lv_args, lv_pick, rf_cat, cat_i, cat_r, cat_l]) (Ya_leastTotal_x C hr hR))
def Zo_mark_f (n : Nat) (x0 : Int32) (x1 : Int32) (h : xH) : Option (Int32 × xH) := (if x1 = 0 then some ((((2 : Int32)) * (x0)) + ((1 : Int32)), h) else some (((2 : Int32)) * (x0), h))
set_option maxRecDepth 100000 in
set_option maxHeartbeats 8000000 in
theorem Zo_mark_x {F : xF} {G : xG} {B sz : Nat} (C : xC F G B cZo_mark RZo 2 0 0 0 0) (hr : (xFM F).sig.returnType = (some .int)) {n : Nat} {x0 : Int32} {x1 : Int32} {h : xH} {R : Int32 × xH} (hR : Zo_mark_f n x0 x1 h = some R) : X F G B (xZ F G B (kP (some (.int R.1)) R.2 sz) 0 0) 2 h sz 0 0 0 [(0, .int (x0)), (1, .int (x1))] [] := by
  unfold Zo_mark_f at hR
  refine X_iload_n C dZo_mark_0 rfl ?_
  refine X_if_eq (tgt := 10) C dZo_mark_1 (by decide) (fun c1 => ?_) (fun c1 => ?_)
  · rw [if_pos c1] at hR
    refine X_iconst (v := 2) C dZo_mark_10 rfl ?_
    refine X_iload_n C dZo_mark_11 rfl ?_
    refine X_imul C dZo_mark_12 ?_
    refine X_iconst (v := 1) C dZo_mark_13 rfl ?_
    refine X_iadd C dZo_mark_14 ?_
    rw [← Option.some.inj hR]
    exact X_iret C hr (Nat.le_refl _) (Nat.le_refl _) dZo_mark_15 ⟨rfl, rfl, rfl⟩
  · rw [if_neg c1] at hR
    refine X_iconst (v := 2) C dZo_mark_4 rfl ?_
    refine X_iload_n C dZo_mark_5 rfl ?_
    refine X_imul C dZo_mark_6 ?_
    refine X_goto (tgt := 15) C dZo_mark_7 (by decide) ?_
    rw [← Option.some.inj hR]
    exact X_iret C hr (Nat.le_refl _) (Nat.le_refl _) dZo_mark_15 ⟨rfl, rfl, rfl⟩
theorem Zo_mark_c {l : Launch} {G : xG} {B sz : Nat} {n : Nat} {x0 : Int32} {x1 : Int32} {h : xH} {R : Int32 × xH} (hR : Zo_mark_f n x0 x1 h = some R) : xCon l yZo_mark cZo_mark 2 (some .int) 0 0 0 0 G B [.int (x0), .int (x1)] h sz (kP (some (.int R.1)) R.2 sz) := xCon.of (by decide) (by exact Nat.le_of_ble_eq_true rfl) (fun F e C hr _ => X_sub (lv' := [(0, .int (x0)), (1, .int (x1))]) [0, 1] rfl (Zo_mark_x C hr hR))
def Zo_becomeAllZero_f (n : Nat) (o : Nat)  (h : xH) : Option (Int32 × xH) := obd (gq h (o) 1 1) (fun w1 => obd (J7_fill_53178_f n 0 (w1) ((1 : Int32)) 0 0 h) (fun r6 => obd (pf r6.2 (o) 1 2 (.int ((0 : Int32)))) (fun h7 => some (0, h7))))
set_option maxRecDepth 100000 in
set_option maxHeartbeats 8000000 in
theorem Zo_becomeAllZero_x {F : xF} {G : xG} {B sz : Nat} {o : Nat} (C : xC F G B cZo_becomeAllZero RZo 1 1 23 0 0) (hr : (xFM F).sig.returnType = none) {n : Nat} {h : xH} {R : Int32 × xH} (hR : Zo_becomeAllZero_f n o  h = some R) : X F G B (xZ F G B (kP none R.2 sz) 0 0) 1 h sz 0 0 0 [(0, .ref (o))] [] := by
  unfold Zo_becomeAllZero_f at hR
  refine X_aload_n C dZo_becomeAllZero_0 rfl ?_
  have hq := o_bind hR
  clear hR
  obtain ⟨w1, hx5, hR⟩ := hq
  obtain ⟨fs2, he3, hv4⟩ := gq_e hx5
  refine X_get (k := 1) C oZo fwZo_15 he3 hv4 dZo_becomeAllZero_1 ?_
  refine X_iconst (v := 1) C dZo_becomeAllZero_4 rfl ?_
  have hq := o_bind hR
  clear hR
  obtain ⟨r6, hr6, hR⟩ := hq
  refine X_callSk (As := [va_rf (w1), .int ((1 : Int32))]) (rest := []) C (J7_fill_53178_c hr6) wZo_19 ⟨by decide, by decide⟩ ⟨Nat.le_refl _, Nat.le_refl _⟩ rfl rfl (Nat.le_of_ble_eq_true rfl) dZo_becomeAllZero_5 ?_
  show X F G B _ 1 (r6.2) _ _ _ _ _ []
  refine X_aload_n C dZo_becomeAllZero_8 rfl ?_
  refine X_iconst (v := 0) C dZo_becomeAllZero_9 rfl ?_
  have hq := o_bind hR
  clear hR
  obtain ⟨h7, hh8, hR⟩ := hq
  obtain ⟨fs9, he10, hl11, e12⟩ := pf_e hh8
  refine X_put (k := 2) C oZo fwZo_26 rfl he10 rfl rfl hl11 dZo_becomeAllZero_10 ?_
  rw [← e12]
  rw [← Option.some.inj hR]
  exact X_vret C hr (Nat.le_refl _) (Nat.le_refl _) dZo_becomeAllZero_13 ⟨rfl, rfl, rfl⟩
theorem Zo_becomeAllZero_c {l : Launch} {G : xG} {B sz : Nat} {o : Nat} {n : Nat} {h : xH} {R : Int32 × xH} (hR : Zo_becomeAllZero_f n o  h = some R) : xCon l yZo_becomeAllZero cZo_becomeAllZero 1 none 1 23 0 0 G B [.ref (o)] h sz (kP none R.2 sz) := xCon.of (by decide) (by exact Nat.le_of_ble_eq_true rfl) (fun F e C hr _ => X_sub (lv' := [(0, .ref (o))]) [0] rfl (Zo_becomeAllZero_x C hr hR))
def Zo_becomeAllTimes_t0 (f : Nat → Int32 → xH → Option (Int32 × xH)) (n : Nat) (o : Nat) (x1 : Int32) (h : xH) : Option (Int32 × xH) := obd (gq h (o) 1 1) (fun w1 => obd (J7_fill_53178_f n 0 (w1) ((1000000 : Int32)) 0 0 h) (fun r6 => f 11 ((0 : Int32)) r6.2))
def Zo_becomeAllTimes_t11 (f : Nat → Int32 → xH → Option (Int32 × xH)) (n : Nat) (o : Nat) (x1 : Int32) (h : xH) : Option (Int32 × xH) := obd (gi h (o) 1 0) (fun u7 => (if u7 ≤ x1 then obd (pf h (o) 1 2 (.int ((0 : Int32)))) (fun h13 => some (0, h13)) else obd (gq h (o) 1 1) (fun w19 => obd w19 (fun a24 => obd (pa h (a24) 0 (x1) ((1 : Int32))) (fun h25 => obd (gq h25 (o) 1 1) (fun w32 => obd (gi h25 (o) 1 0) (fun u37 => obd w32 (fun a42 => obd (pa h25 (a42) 0 (((x1) * (u37)) + (x1)) ((1 : Int32))) (fun h43 => f 11 (x1 + 1) h43)))))))))
def Zo_becomeAllTimes_f : Nat → Nat → Nat → Int32 → xH → Option (Int32 × xH)
  | 0 => fun _ _ _ _ => none
  | n + 1 => fun p o x1 h => if p = 0 then Zo_becomeAllTimes_t0 (fun p x1 h => Zo_becomeAllTimes_f n p o x1 h) n o x1 h else if p = 11 then Zo_becomeAllTimes_t11 (fun p x1 h => Zo_becomeAllTimes_f n p o x1 h) n o x1 h else none
theorem Zo_becomeAllTimes_e0 (n : Nat) (o : Nat) (x1 : Int32) (h : xH) : Zo_becomeAllTimes_f (n + 1) 0 o x1 h = Zo_becomeAllTimes_t0 (fun p x1 h => Zo_becomeAllTimes_f n p o x1 h) n o x1 h := by
  show (if 0 = 0 then Zo_becomeAllTimes_t0 (fun p x1 h => Zo_becomeAllTimes_f n p o x1 h) n o x1 h else if 0 = 11 then Zo_becomeAllTimes_t11 (fun p x1 h => Zo_becomeAllTimes_f n p o x1 h) n o x1 h else none) = _
  rw [if_pos rfl]
theorem Zo_becomeAllTimes_e11 (n : Nat) (o : Nat) (x1 : Int32) (h : xH) : Zo_becomeAllTimes_f (n + 1) 11 o x1 h = Zo_becomeAllTimes_t11 (fun p x1 h => Zo_becomeAllTimes_f n p o x1 h) n o x1 h := by
  show (if 11 = 0 then Zo_becomeAllTimes_t0 (fun p x1 h => Zo_becomeAllTimes_f n p o x1 h) n o x1 h else if 11 = 11 then Zo_becomeAllTimes_t11 (fun p x1 h => Zo_becomeAllTimes_f n p o x1 h) n o x1 h else none) = _
  rw [if_neg (by decide), if_pos rfl]
set_option maxRecDepth 100000 in
set_option maxHeartbeats 8000000 in
theorem Zo_becomeAllTimes_x {F : xF} {G : xG} {B sz : Nat} {o : Nat} (C : xC F G B cZo_becomeAllTimes RZo 2 1 23 0 0) (hr : (xFM F).sig.returnType = none) : ∀ (n : Nat) (x1 : Int32) (h : xH) (R : Int32 × xH), (Zo_becomeAllTimes_f n 0 o x1 h = some R → X F G B (xZ F G B (kP none R.2 sz) 0 0) 2 h sz 0 0 0 [(0, .ref (o))] []) ∧ (Zo_becomeAllTimes_f n 11 o x1 h = some R → X F G B (xZ F G B (kP none R.2 sz) 0 0) 2 h sz 0 0 11 [(0, .ref (o)), (1, .int (x1))] []) := by
  intro n
  induction n with
  | zero => exact fun _ _ _ => ⟨(fun hR => nomatch (show (none : Option _) = some _ from hR)), (fun hR => nomatch (show (none : Option _) = some _ from hR))⟩
  | succ n ih =>
    intro x1 h R
    refine ⟨fun hR => ?_, fun hR => ?_⟩
    · rw [Zo_becomeAllTimes_e0] at hR
      unfold Zo_becomeAllTimes_t0 at hR
      refine X_aload_n C dZo_becomeAllTimes_0 rfl ?_
      have hq := o_bind hR
      clear hR
      obtain ⟨w1, hx5, hR⟩ := hq
      obtain ⟨fs2, he3, hv4⟩ := gq_e hx5
      refine X_get (k := 1) C oZo fwZo_15 he3 hv4 dZo_becomeAllTimes_1 ?_
      refine X_ldc (v := 1000000) C kZo_25 dZo_becomeAllTimes_4 ?_
      have hq := o_bind hR
      clear hR
      obtain ⟨r6, hr6, hR⟩ := hq
      refine X_callSk (As := [va_rf (w1), .int ((1000000 : Int32))]) (rest := []) C (J7_fill_53178_c hr6) wZo_19 ⟨by decide, by decide⟩ ⟨Nat.le_refl _, Nat.le_refl _⟩ rfl rfl (Nat.le_of_ble_eq_true rfl) dZo_becomeAllTimes_6 ?_
      show X F G B _ 2 (r6.2) _ _ _ _ _ []
      refine X_iconst (v := 0) C dZo_becomeAllTimes_9 rfl ?_
      refine X_istore_n (lv' := [(1, .int ((0 : Int32))), (0, .ref (o))]) C dZo_becomeAllTimes_10 (by decide) rfl ?_
      refine X_sub (lv' := [(0, .ref (o)), (1, .int ((0 : Int32)))]) [1, 0] rfl ?_
      exact (ih ((0 : Int32)) _ _).2 hR
    · rw [Zo_becomeAllTimes_e11] at hR
      unfold Zo_becomeAllTimes_t11 at hR
      refine X_iload_n C dZo_becomeAllTimes_11 rfl ?_
      refine X_aload_n C dZo_becomeAllTimes_12 rfl ?_
      have hq := o_bind hR
      clear hR
      obtain ⟨u7, hx11, hR⟩ := hq
      obtain ⟨fs8, he9, hv10⟩ := gi_e hx11
      refine X_get (k := 0) C oZo fwZo_9 he9 hv10 dZo_becomeAllTimes_13 ?_
      refine X_icmp_ge (tgt := 46) C dZo_becomeAllTimes_16 (by decide) (fun c12 => ?_) (fun c12 => ?_)
      · rw [if_pos c12] at hR
        refine X_aload_n C dZo_becomeAllTimes_46 rfl ?_
        refine X_iconst (v := 0) C dZo_becomeAllTimes_47 rfl ?_
        have hq := o_bind hR
        clear hR
        obtain ⟨h13, hh14, hR⟩ := hq
        obtain ⟨fs15, he16, hl17, e18⟩ := pf_e hh14
        refine X_put (k := 2) C oZo fwZo_26 rfl he16 rfl rfl hl17 dZo_becomeAllTimes_48 ?_
        rw [← e18]
        rw [← Option.some.inj hR]
        exact X_vret C hr (Nat.le_refl _) (Nat.le_refl _) dZo_becomeAllTimes_51 ⟨rfl, rfl, rfl⟩
      · rw [if_neg c12] at hR
        refine X_aload_n C dZo_becomeAllTimes_19 rfl ?_
        have hq := o_bind hR
        clear hR
        obtain ⟨w19, hx23, hR⟩ := hq
        obtain ⟨fs20, he21, hv22⟩ := gq_e hx23
        refine X_get (k := 1) C oZo fwZo_15 he21 hv22 dZo_becomeAllTimes_20 ?_
        refine X_iload_n C dZo_becomeAllTimes_23 rfl ?_
        refine X_iconst (v := 1) C dZo_becomeAllTimes_24 rfl ?_
        have hq := o_bind hR
        clear hR
        obtain ⟨a24, rfl, hR⟩ := hq
        have hq := o_bind hR
        clear hR
        obtain ⟨h25, hh26, hR⟩ := hq
        obtain ⟨n27, f28, he29, hi30, e31⟩ := pa_e hh26
        refine X_iast C rfl he29 hi30 dZo_becomeAllTimes_25 ?_
        rw [← e31]
        refine X_aload_n C dZo_becomeAllTimes_26 rfl ?_
        have hq := o_bind hR
        clear hR
        obtain ⟨w32, hx36, hR⟩ := hq
        obtain ⟨fs33, he34, hv35⟩ := gq_e hx36
        refine X_get (k := 1) C oZo fwZo_15 he34 hv35 dZo_becomeAllTimes_27 ?_
        refine X_iload_n C dZo_becomeAllTimes_30 rfl ?_
        refine X_aload_n C dZo_becomeAllTimes_31 rfl ?_
        have hq := o_bind hR
        clear hR
        obtain ⟨u37, hx41, hR⟩ := hq
        obtain ⟨fs38, he39, hv40⟩ := gi_e hx41
        refine X_get (k := 0) C oZo fwZo_9 he39 hv40 dZo_becomeAllTimes_32 ?_
        refine X_imul C dZo_becomeAllTimes_35 ?_
        refine X_iload_n C dZo_becomeAllTimes_36 rfl ?_
        refine X_iadd C dZo_becomeAllTimes_37 ?_
        refine X_iconst (v := 1) C dZo_becomeAllTimes_38 rfl ?_
        have hq := o_bind hR
        clear hR
        obtain ⟨a42, rfl, hR⟩ := hq
        have hq := o_bind hR
        clear hR
        obtain ⟨h43, hh44, hR⟩ := hq
        obtain ⟨n45, f46, he47, hi48, e49⟩ := pa_e hh44
        refine X_iast C rfl he47 hi48 dZo_becomeAllTimes_39 ?_
        rw [← e49]
        refine X_iinc (v := x1 + 1) (lv' := [(1, .int (x1 + 1)), (0, .ref (o))]) C dZo_becomeAllTimes_40 rfl rfl (by decide) rfl ?_
        refine X_goto (tgt := 11) C dZo_becomeAllTimes_43 (by decide) ?_
        refine X_sub (lv' := [(0, .ref (o)), (1, .int (x1 + 1))]) [1, 0] rfl ?_
        exact (ih (x1 + 1) _ _).2 hR
theorem Zo_becomeAllTimes_c {l : Launch} {G : xG} {B sz : Nat} {o : Nat} {n : Nat} {h : xH} {R : Int32 × xH} (hR : Zo_becomeAllTimes_f n 0 o 0 h = some R) : xCon l yZo_becomeAllTimes cZo_becomeAllTimes 2 none 1 23 0 0 G B [.ref (o)] h sz (kP none R.2 sz) := xCon.of (by decide) (by exact Nat.le_of_ble_eq_true rfl) (fun F e C hr _ => X_sub (lv' := [(0, .ref (o))]) [0] rfl ((Zo_becomeAllTimes_x C hr n 0 h R).1 hR))
def Zo_cutBy_t0 (f : Nat → Option Nat → Int32 → Int32 → xH → Option (Int32 × xH)) (n : Nat) (o : Nat) (y1 : Option Nat) (x2 : Int32) (x3 : Int32) (h : xH) : Option (Int32 × xH) := f 2 (y1) ((0 : Int32)) 0 h
def Zo_cutBy_t2 (f : Nat → Option Nat → Int32 → Int32 → xH → Option (Int32 × xH)) (n : Nat) (o : Nat) (y1 : Option Nat) (x2 : Int32) (x3 : Int32) (h : xH) : Option (Int32 × xH) := obd (gi h (o) 1 0) (fun u1 => (if u1 ≤ x2 then some (0, h) else f 12 (y1) (x2) ((0 : Int32)) h))
def Zo_cutBy_t12 (f : Nat → Option Nat → Int32 → Int32 → xH → Option (Int32 × xH)) (n : Nat) (o : Nat) (y1 : Option Nat) (x2 : Int32) (x3 : Int32) (h : xH) : Option (Int32 × xH) := obd (gi h (o) 1 0) (fun u7 => (if u7 ≤ x3 then f 2 (y1) (x2 + 1) 0 h else (if x2 = x3 then f 12 (y1) (x2) (x3 + 1) h else obd y1 (fun a14 => obd (gi h (a14) 1 0) (fun u15 => obd (gi h (o) 1 0) (fun u20 => (if u15 = u20 then (if kc h (a14) 1 = true then obd (Zo_at_f n (a14) (x2) (x3) h) (fun r26 => (if kc r26.2 (o) 1 = true then obd (Zo_squeeze_f n 0 (o) (x2) (x3) (r26.1) 0 0 0 r26.2) (fun r27 => f 12 (some (a14)) (x2) (x3 + 1) r27.2) else none)) else none) else f 12 (some (a14)) (x2) (x3 + 1) h)))))))
def Zo_cutBy_f : Nat → Nat → Nat → Option Nat → Int32 → Int32 → xH → Option (Int32 × xH)
  | 0 => fun _ _ _ _ _ _ => none
  | n + 1 => fun p o y1 x2 x3 h => if p = 0 then Zo_cutBy_t0 (fun p y1 x2 x3 h => Zo_cutBy_f n p o y1 x2 x3 h) n o y1 x2 x3 h else if p = 2 then Zo_cutBy_t2 (fun p y1 x2 x3 h => Zo_cutBy_f n p o y1 x2 x3 h) n o y1 x2 x3 h else if p = 12 then Zo_cutBy_t12 (fun p y1 x2 x3 h => Zo_cutBy_f n p o y1 x2 x3 h) n o y1 x2 x3 h else none
theorem Zo_cutBy_e0 (n : Nat) (o : Nat) (y1 : Option Nat) (x2 : Int32) (x3 : Int32) (h : xH) : Zo_cutBy_f (n + 1) 0 o y1 x2 x3 h = Zo_cutBy_t0 (fun p y1 x2 x3 h => Zo_cutBy_f n p o y1 x2 x3 h) n o y1 x2 x3 h := by
  show (if 0 = 0 then Zo_cutBy_t0 (fun p y1 x2 x3 h => Zo_cutBy_f n p o y1 x2 x3 h) n o y1 x2 x3 h else if 0 = 2 then Zo_cutBy_t2 (fun p y1 x2 x3 h => Zo_cutBy_f n p o y1 x2 x3 h) n o y1 x2 x3 h else if 0 = 12 then Zo_cutBy_t12 (fun p y1 x2 x3 h => Zo_cutBy_f n p o y1 x2 x3 h) n o y1 x2 x3 h else none) = _
  rw [if_pos rfl]
theorem Zo_cutBy_e2 (n : Nat) (o : Nat) (y1 : Option Nat) (x2 : Int32) (x3 : Int32) (h : xH) : Zo_cutBy_f (n + 1) 2 o y1 x2 x3 h = Zo_cutBy_t2 (fun p y1 x2 x3 h => Zo_cutBy_f n p o y1 x2 x3 h) n o y1 x2 x3 h := by
  show (if 2 = 0 then Zo_cutBy_t0 (fun p y1 x2 x3 h => Zo_cutBy_f n p o y1 x2 x3 h) n o y1 x2 x3 h else if 2 = 2 then Zo_cutBy_t2 (fun p y1 x2 x3 h => Zo_cutBy_f n p o y1 x2 x3 h) n o y1 x2 x3 h else if 2 = 12 then Zo_cutBy_t12 (fun p y1 x2 x3 h => Zo_cutBy_f n p o y1 x2 x3 h) n o y1 x2 x3 h else none) = _
  rw [if_neg (by decide), if_pos rfl]
theorem Zo_cutBy_e12 (n : Nat) (o : Nat) (y1 : Option Nat) (x2 : Int32) (x3 : Int32) (h : xH) : Zo_cutBy_f (n + 1) 12 o y1 x2 x3 h = Zo_cutBy_t12 (fun p y1 x2 x3 h => Zo_cutBy_f n p o y1 x2 x3 h) n o y1 x2 x3 h := by
  show (if 12 = 0 then Zo_cutBy_t0 (fun p y1 x2 x3 h => Zo_cutBy_f n p o y1 x2 x3 h) n o y1 x2 x3 h else if 12 = 2 then Zo_cutBy_t2 (fun p y1 x2 x3 h => Zo_cutBy_f n p o y1 x2 x3 h) n o y1 x2 x3 h else if 12 = 12 then Zo_cutBy_t12 (fun p y1 x2 x3 h => Zo_cutBy_f n p o y1 x2 x3 h) n o y1 x2 x3 h else none) = _
  rw [if_neg (by decide), if_neg (by decide), if_pos rfl]
set_option maxRecDepth 100000 in
set_option maxHeartbeats 8000000 in
theorem Zo_cutBy_x {F : xF} {G : xG} {B sz : Nat} {o : Nat} (C : xC F G B cZo_cutBy RZo 4 2 48 0 0) (hr : (xFM F).sig.returnType = none) : ∀ (n : Nat) (y1 : Option Nat) (x2 : Int32) (x3 : Int32) (h : xH) (R : Int32 × xH), (Zo_cutBy_f n 0 o y1 x2 x3 h = some R → X F G B (xZ F G B (kP none R.2 sz) 0 0) 4 h sz 0 0 0 [(0, .ref (o)), (1, va_rf (y1))] []) ∧ (Zo_cutBy_f n 2 o y1 x2 x3 h = some R → X F G B (xZ F G B (kP none R.2 sz) 0 0) 4 h sz 0 0 2 [(0, .ref (o)), (1, va_rf (y1)), (2, .int (x2))] []) ∧ (Zo_cutBy_f n 12 o y1 x2 x3 h = some R → X F G B (xZ F G B (kP none R.2 sz) 0 0) 4 h sz 0 0 12 [(0, .ref (o)), (1, va_rf (y1)), (2, .int (x2)), (3, .int (x3))] []) := by
  intro n
  induction n with
  | zero => exact fun _ _ _ _ _ => ⟨(fun hR => nomatch (show (none : Option _) = some _ from hR)), (fun hR => nomatch (show (none : Option _) = some _ from hR)), (fun hR => nomatch (show (none : Option _) = some _ from hR))⟩
  | succ n ih =>
    intro y1 x2 x3 h R
    refine ⟨fun hR => ?_, fun hR => ?_, fun hR => ?_⟩
    · rw [Zo_cutBy_e0] at hR
      unfold Zo_cutBy_t0 at hR
      refine X_iconst (v := 0) C dZo_cutBy_0 rfl ?_
      refine X_istore_n (lv' := [(2, .int ((0 : Int32))), (0, .ref (o)), (1, va_rf (y1))]) C dZo_cutBy_1 (by decide) (by simp [rf_cat, cat_i, cat_r, cat_l, rf_n, rf_s] <;> decide) ?_
      refine X_sub (lv' := [(0, .ref (o)), (1, va_rf ((y1))), (2, .int ((0 : Int32)))]) [1, 2, 0] rfl ?_
      exact (ih (y1) ((0 : Int32)) 0 _ _).2.1 hR
    · rw [Zo_cutBy_e2] at hR
      unfold Zo_cutBy_t2 at hR
      refine X_iload_n C dZo_cutBy_2 rfl ?_
      refine X_aload_n C dZo_cutBy_3 rfl ?_
      have hq := o_bind hR
      clear hR
      obtain ⟨u1, hx5, hR⟩ := hq
      obtain ⟨fs2, he3, hv4⟩ := gi_e hx5
      refine X_get (k := 0) C oZo fwZo_9 he3 hv4 dZo_cutBy_4 ?_
      refine X_icmp_ge (tgt := 60) C dZo_cutBy_7 (by decide) (fun c6 => ?_) (fun c6 => ?_)
      · rw [if_pos c6] at hR
        rw [← Option.some.inj hR]
        exact X_vret C hr (Nat.le_refl _) (Nat.le_refl _) dZo_cutBy_60 ⟨rfl, rfl, rfl⟩
      · rw [if_neg c6] at hR
        refine X_iconst (v := 0) C dZo_cutBy_10 rfl ?_
        refine X_istore_n (lv' := [(3, .int ((0 : Int32))), (0, .ref (o)), (1, va_rf (y1)), (2, .int (x2))]) C dZo_cutBy_11 (by decide) (by simp [rf_cat, cat_i, cat_r, cat_l, rf_n, rf_s] <;> decide) ?_
        refine X_sub (lv' := [(0, .ref (o)), (1, va_rf ((y1))), (2, .int (x2)), (3, .int ((0 : Int32)))]) [1, 2, 3, 0] rfl ?_
        exact (ih (y1) (x2) ((0 : Int32)) _ _).2.2 hR
    · rw [Zo_cutBy_e12] at hR
      unfold Zo_cutBy_t12 at hR
      refine X_iload_n C dZo_cutBy_12 rfl ?_
      refine X_aload_n C dZo_cutBy_13 rfl ?_
      have hq := o_bind hR
      clear hR
      obtain ⟨u7, hx11, hR⟩ := hq
      obtain ⟨fs8, he9, hv10⟩ := gi_e hx11
      refine X_get (k := 0) C oZo fwZo_9 he9 hv10 dZo_cutBy_14 ?_
      refine X_icmp_ge (tgt := 54) C dZo_cutBy_17 (by decide) (fun c12 => ?_) (fun c12 => ?_)
      · rw [if_pos c12] at hR
        refine X_iinc (v := x2 + 1) (lv' := [(2, .int (x2 + 1)), (0, .ref (o)), (1, va_rf (y1)), (3, .int (x3))]) C dZo_cutBy_54 rfl rfl (by decide) (by simp [rf_cat, cat_i, cat_r, cat_l, rf_n, rf_s] <;> decide) ?_
        refine X_goto (tgt := 2) C dZo_cutBy_57 (by decide) ?_
        refine X_sub (lv' := [(0, .ref (o)), (1, va_rf ((y1))), (2, .int (x2 + 1))]) [1, 2, 0] rfl ?_
        exact (ih (y1) (x2 + 1) 0 _ _).2.1 hR
      · rw [if_neg c12] at hR
        refine X_iload_n C dZo_cutBy_20 rfl ?_
        refine X_iload_n C dZo_cutBy_21 rfl ?_
        refine X_icmp_eq (tgt := 48) C dZo_cutBy_22 (by decide) (fun c13 => ?_) (fun c13 => ?_)
        · rw [if_pos c13] at hR
          refine X_iinc (v := x3 + 1) (lv' := [(3, .int (x3 + 1)), (0, .ref (o)), (1, va_rf (y1)), (2, .int (x2))]) C dZo_cutBy_48 rfl rfl (by decide) (by simp [rf_cat, cat_i, cat_r, cat_l, rf_n, rf_s] <;> decide) ?_
          refine X_goto (tgt := 12) C dZo_cutBy_51 (by decide) ?_
          refine X_sub (lv' := [(0, .ref (o)), (1, va_rf ((y1))), (2, .int (x2)), (3, .int (x3 + 1))]) [1, 2, 3, 0] rfl ?_
          exact (ih (y1) (x2) (x3 + 1) _ _).2.2 hR
        · rw [if_neg c13] at hR
          refine X_aload_nq C dZo_cutBy_25 rfl ?_
          have hq := o_bind hR
          clear hR
          obtain ⟨a14, rfl, hR⟩ := hq
          have hq := o_bind hR
          clear hR
          obtain ⟨u15, hx19, hR⟩ := hq
          obtain ⟨fs16, he17, hv18⟩ := gi_e hx19
          refine X_get (k := 0) C oZo fwZo_9 he17 hv18 dZo_cutBy_26 ?_
          refine X_aload_n C dZo_cutBy_29 rfl ?_
          have hq := o_bind hR
          clear hR
          obtain ⟨u20, hx24, hR⟩ := hq
          obtain ⟨fs21, he22, hv23⟩ := gi_e hx24
          refine X_get (k := 0) C oZo fwZo_9 he22 hv23 dZo_cutBy_30 ?_
          refine X_icmp_ne (tgt := 48) C dZo_cutBy_33 (by decide) (fun c25 => ?_) (fun c25 => ?_)
          · rw [if_neg c25] at hR
            refine X_iinc (v := x3 + 1) (lv' := [(3, .int (x3 + 1)), (0, .ref (o)), (1, .ref (a14)), (2, .int (x2))]) C dZo_cutBy_48 rfl rfl (by decide) rfl ?_
            refine X_goto (tgt := 12) C dZo_cutBy_51 (by decide) ?_
            refine X_sub (lv' := [(0, .ref (o)), (1, va_rf ((some (a14)))), (2, .int (x2)), (3, .int (x3 + 1))]) [1, 2, 3, 0] rfl ?_
            exact (ih (some (a14)) (x2) (x3 + 1) _ _).2.2 hR
          · rw [if_pos c25] at hR
            refine X_aload_n C dZo_cutBy_36 rfl ?_
            refine X_iload_n C dZo_cutBy_37 rfl ?_
            refine X_iload_n C dZo_cutBy_38 rfl ?_
            refine X_aload_n C dZo_cutBy_39 rfl ?_
            refine X_iload_n C dZo_cutBy_40 rfl ?_
            refine X_iload_n C dZo_cutBy_41 rfl ?_
            have hq := o_if hR
            clear hR
            obtain ⟨k31, hR⟩ := hq
            obtain ⟨fs32, he33⟩ := kc_e k31
            have hq := o_bind hR
            clear hR
            obtain ⟨r26, hr26, hR⟩ := hq
            refine X_callVk (As := [.int (x2), .int (x3)]) (rest := [.int (x3), .int (x2), .ref (o)]) C (Zo_at_c hr26) wZo_36 ⟨by decide, by decide⟩ ⟨Nat.le_refl _, Nat.le_refl _⟩ he33 oZo.2.1 rfl rfl (Nat.le_of_ble_eq_true rfl) dZo_cutBy_42 ?_
            show X F G B _ 4 (r26.2) _ _ _ _ _ [.int (r26.1), .int (x3), .int (x2), .ref (o)]
            have hq := o_if hR
            clear hR
            obtain ⟨k28, hR⟩ := hq
            obtain ⟨fs29, he30⟩ := kc_e k28
            have hq := o_bind hR
            clear hR
            obtain ⟨r27, hr27, hR⟩ := hq
            refine X_callVk (As := [.int (x2), .int (x3), .int (r26.1)]) (rest := []) C (Zo_squeeze_c hr27) wZo_48 ⟨by decide, by decide⟩ ⟨Nat.le_refl _, Nat.le_refl _⟩ he30 oZo.2.1 rfl rfl (Nat.le_of_ble_eq_true rfl) dZo_cutBy_45 ?_
            show X F G B _ 4 (r27.2) _ _ _ _ _ []
            refine X_iinc (v := x3 + 1) (lv' := [(3, .int (x3 + 1)), (0, .ref (o)), (1, .ref (a14)), (2, .int (x2))]) C dZo_cutBy_48 rfl rfl (by decide) rfl ?_
            refine X_goto (tgt := 12) C dZo_cutBy_51 (by decide) ?_
            refine X_sub (lv' := [(0, .ref (o)), (1, va_rf ((some (a14)))), (2, .int (x2)), (3, .int (x3 + 1))]) [1, 2, 3, 0] rfl ?_
            exact (ih (some (a14)) (x2) (x3 + 1) _ _).2.2 hR
theorem Zo_cutBy_c {l : Launch} {G : xG} {B sz : Nat} {o : Nat} {n : Nat} {y1 : Option Nat} {h : xH} {R : Int32 × xH} (hR : Zo_cutBy_f n 0 o y1 0 0 h = some R) : xCon l yZo_cutBy cZo_cutBy 4 none 2 48 0 0 G B [.ref (o), va_rf (y1)] h sz (kP none R.2 sz) := xCon.of (by decide) (by simp [lg_sl, rf_cat, cat_i, cat_r, cat_l]) (fun F e C hr _ => X_sub (lv' := [(0, .ref (o)), (1, va_rf (y1))]) [0, 1] (by simp [lv_args, lv_pick, rf_cat, cat_i, cat_r, cat_l]) ((Zo_cutBy_x C hr n y1 0 0 h R).1 hR))
def Zo_loosened_f (n : Nat) (x0 : Int32) (x1 : Int32) (x2 : Int32) (x3 : Int32) (h : xH) : Option (Int32 × xH) := (if x0 = 0 then (if -(x3) ≤ (x1) >>> (((1 : Int32)) &&& 31) then some (x1, h) else obd (Zo_mark_f n (-(x3)) ((1 : Int32)) h) (fun r3 => some (r3.1, r3.2))) else (if (x1) >>> (((1 : Int32)) &&& 31) ≤ x2 then (if -(x3) ≤ (x1) >>> (((1 : Int32)) &&& 31) then some (x1, h) else obd (Zo_mark_f n (-(x3)) ((1 : Int32)) h) (fun r6 => some (r6.1, r6.2))) else some ((1000000 : Int32), h)))
set_option maxRecDepth 100000 in
set_option maxHeartbeats 8000000 in
theorem Zo_loosened_x {F : xF} {G : xG} {B sz : Nat} (C : xC F G B cZo_loosened RZo 5 1 21 0 0) (hr : (xFM F).sig.returnType = (some .int)) {n : Nat} {x0 : Int32} {x1 : Int32} {x2 : Int32} {x3 : Int32} {h : xH} {R : Int32 × xH} (hR : Zo_loosened_f n x0 x1 x2 x3 h = some R) : X F G B (xZ F G B (kP (some (.int R.1)) R.2 sz) 0 0) 5 h sz 0 0 0 [(0, .int (x0)), (1, .int (x1)), (2, .int (x2)), (3, .int (x3))] [] := by
  unfold Zo_loosened_f at hR
  refine X_iload_n C dZo_loosened_0 rfl ?_
  refine X_iconst (v := 1) C dZo_loosened_1 rfl ?_
  refine X_ishr C dZo_loosened_2 ?_
  refine X_istore (lv' := [(4, .int ((x1) >>> (((1 : Int32)) &&& 31))), (0, .int (x0)), (1, .int (x1)), (2, .int (x2)), (3, .int (x3))]) C dZo_loosened_3 (by decide) rfl ?_
  refine X_iload_n C dZo_loosened_5 rfl ?_
  refine X_if_eq (tgt := 18) C dZo_loosened_6 (by decide) (fun c1 => ?_) (fun c1 => ?_)
  · rw [if_pos c1] at hR
    refine X_iload C dZo_loosened_18 rfl ?_
    refine X_iload_n C dZo_loosened_20 rfl ?_
    refine X_ineg C dZo_loosened_21 ?_
    refine X_icmp_ge (tgt := 34) C dZo_loosened_22 (by decide) (fun c2 => ?_) (fun c2 => ?_)
    · rw [if_pos c2] at hR
      refine X_iload_n C dZo_loosened_34 rfl ?_
      rw [← Option.some.inj hR]
      exact X_iret C hr (Nat.le_refl _) (Nat.le_refl _) dZo_loosened_35 ⟨rfl, rfl, rfl⟩
    · rw [if_neg c2] at hR
      refine X_iload_n C dZo_loosened_25 rfl ?_
      refine X_ineg C dZo_loosened_26 ?_
      refine X_iconst (v := 1) C dZo_loosened_27 rfl ?_
      have hq := o_bind hR
      clear hR
      obtain ⟨r3, hr3, hR⟩ := hq
      refine X_callSk (As := [.int (-(x3)), .int ((1 : Int32))]) (rest := []) C (Zo_mark_c hr3) wZo_63 ⟨by decide, by decide⟩ ⟨Nat.le_refl _, Nat.le_refl _⟩ rfl rfl (Nat.le_of_ble_eq_true rfl) dZo_loosened_28 ?_
      show X F G B _ 5 (r3.2) _ _ _ _ _ [.int (r3.1)]
      refine X_goto (tgt := 35) C dZo_loosened_31 (by decide) ?_
      rw [← Option.some.inj hR]
      exact X_iret C hr (Nat.le_refl _) (Nat.le_refl _) dZo_loosened_35 ⟨rfl, rfl, rfl⟩
  · rw [if_neg c1] at hR
    refine X_iload C dZo_loosened_9 rfl ?_
    refine X_iload_n C dZo_loosened_11 rfl ?_
    refine X_icmp_le (tgt := 18) C dZo_loosened_12 (by decide) (fun c4 => ?_) (fun c4 => ?_)
    · rw [if_pos c4] at hR
      refine X_iload C dZo_loosened_18 rfl ?_
      refine X_iload_n C dZo_loosened_20 rfl ?_
      refine X_ineg C dZo_loosened_21 ?_
      refine X_icmp_ge (tgt := 34) C dZo_loosened_22 (by decide) (fun c5 => ?_) (fun c5 => ?_)
      · rw [if_pos c5] at hR
        refine X_iload_n C dZo_loosened_34 rfl ?_
        rw [← Option.some.inj hR]
        exact X_iret C hr (Nat.le_refl _) (Nat.le_refl _) dZo_loosened_35 ⟨rfl, rfl, rfl⟩
      · rw [if_neg c5] at hR
        refine X_iload_n C dZo_loosened_25 rfl ?_
        refine X_ineg C dZo_loosened_26 ?_
        refine X_iconst (v := 1) C dZo_loosened_27 rfl ?_
        have hq := o_bind hR
        clear hR
        obtain ⟨r6, hr6, hR⟩ := hq
        refine X_callSk (As := [.int (-(x3)), .int ((1 : Int32))]) (rest := []) C (Zo_mark_c hr6) wZo_63 ⟨by decide, by decide⟩ ⟨Nat.le_refl _, Nat.le_refl _⟩ rfl rfl (Nat.le_of_ble_eq_true rfl) dZo_loosened_28 ?_
        show X F G B _ 5 (r6.2) _ _ _ _ _ [.int (r6.1)]
        refine X_goto (tgt := 35) C dZo_loosened_31 (by decide) ?_
        rw [← Option.some.inj hR]
        exact X_iret C hr (Nat.le_refl _) (Nat.le_refl _) dZo_loosened_35 ⟨rfl, rfl, rfl⟩
    · rw [if_neg c4] at hR
      refine X_ldc (v := 1000000) C kZo_25 dZo_loosened_15 ?_
      rw [← Option.some.inj hR]
      exact X_iret C hr (Nat.le_refl _) (Nat.le_refl _) dZo_loosened_17 ⟨rfl, rfl, rfl⟩
theorem Zo_loosened_c {l : Launch} {G : xG} {B sz : Nat} {n : Nat} {x0 : Int32} {x1 : Int32} {x2 : Int32} {x3 : Int32} {h : xH} {R : Int32 × xH} (hR : Zo_loosened_f n x0 x1 x2 x3 h = some R) : xCon l yZo_loosened cZo_loosened 5 (some .int) 1 21 0 0 G B [.int (x0), .int (x1), .int (x2), .int (x3)] h sz (kP (some (.int R.1)) R.2 sz) := xCon.of (by decide) (by exact Nat.le_of_ble_eq_true rfl) (fun F e C hr _ => X_sub (lv' := [(0, .int (x0)), (1, .int (x1)), (2, .int (x2)), (3, .int (x3))]) [0, 1, 2, 3] rfl (Zo_loosened_x C hr hR))
def Zo_close_t0 (f : Nat → Int32 → Int32 → Int32 → xH → Option (Int32 × xH)) (n : Nat) (o : Nat) (x1 : Int32) (x2 : Int32) (x3 : Int32) (h : xH) : Option (Int32 × xH) := f 2 ((0 : Int32)) 0 0 h
def Zo_close_t2 (f : Nat → Int32 → Int32 → Int32 → xH → Option (Int32 × xH)) (n : Nat) (o : Nat) (x1 : Int32) (x2 : Int32) (x3 : Int32) (h : xH) : Option (Int32 × xH) := obd (gi h (o) 1 0) (fun u1 => (if u1 ≤ x1 then some (0, h) else f 12 (x1) ((0 : Int32)) 0 h))
def Zo_close_t12 (f : Nat → Int32 → Int32 → Int32 → xH → Option (Int32 × xH)) (n : Nat) (o : Nat) (x1 : Int32) (x2 : Int32) (x3 : Int32) (h : xH) : Option (Int32 × xH) := obd (gi h (o) 1 0) (fun u7 => (if u7 ≤ x2 then f 2 (x1 + 1) 0 0 h else f 22 (x1) (x2) ((0 : Int32)) h))
def Zo_close_t22 (f : Nat → Int32 → Int32 → Int32 → xH → Option (Int32 × xH)) (n : Nat) (o : Nat) (x1 : Int32) (x2 : Int32) (x3 : Int32) (h : xH) : Option (Int32 × xH) := obd (gi h (o) 1 0) (fun u13 => (if u13 ≤ x3 then f 12 (x1) (x2 + 1) 0 h else obd (gq h (o) 1 1) (fun w19 => obd (gi h (o) 1 0) (fun u24 => (if kc h (o) 1 = true then obd (Zo_at_f n (o) (x2) (x3) h) (fun r29 => (if kc r29.2 (o) 1 = true then obd (Zo_at_f n (o) (x2) (x1) r29.2) (fun r30 => (if kc r30.2 (o) 1 = true then obd (Zo_at_f n (o) (x1) (x3) r30.2) (fun r31 => obd (Zo_sum_f n (r30.1) (r31.1) r31.2) (fun r32 => obd w19 (fun a33 => obd (pa r32.2 (a33) 0 (((x2) * (u24)) + (x3)) ((if r32.1 < r29.1 then r32.1 else r29.1))) (fun h34 => f 22 (x1) (x2) (x3 + 1) h34)))) else none)) else none)) else none)))))
def Zo_close_f : Nat → Nat → Nat → Int32 → Int32 → Int32 → xH → Option (Int32 × xH)
  | 0 => fun _ _ _ _ _ _ => none
  | n + 1 => fun p o x1 x2 x3 h => if p = 0 then Zo_close_t0 (fun p x1 x2 x3 h => Zo_close_f n p o x1 x2 x3 h) n o x1 x2 x3 h else if p = 2 then Zo_close_t2 (fun p x1 x2 x3 h => Zo_close_f n p o x1 x2 x3 h) n o x1 x2 x3 h else if p = 12 then Zo_close_t12 (fun p x1 x2 x3 h => Zo_close_f n p o x1 x2 x3 h) n o x1 x2 x3 h else if p = 22 then Zo_close_t22 (fun p x1 x2 x3 h => Zo_close_f n p o x1 x2 x3 h) n o x1 x2 x3 h else none
theorem Zo_close_e0 (n : Nat) (o : Nat) (x1 : Int32) (x2 : Int32) (x3 : Int32) (h : xH) : Zo_close_f (n + 1) 0 o x1 x2 x3 h = Zo_close_t0 (fun p x1 x2 x3 h => Zo_close_f n p o x1 x2 x3 h) n o x1 x2 x3 h := by
  show (if 0 = 0 then Zo_close_t0 (fun p x1 x2 x3 h => Zo_close_f n p o x1 x2 x3 h) n o x1 x2 x3 h else if 0 = 2 then Zo_close_t2 (fun p x1 x2 x3 h => Zo_close_f n p o x1 x2 x3 h) n o x1 x2 x3 h else if 0 = 12 then Zo_close_t12 (fun p x1 x2 x3 h => Zo_close_f n p o x1 x2 x3 h) n o x1 x2 x3 h else if 0 = 22 then Zo_close_t22 (fun p x1 x2 x3 h => Zo_close_f n p o x1 x2 x3 h) n o x1 x2 x3 h else none) = _
  rw [if_pos rfl]
theorem Zo_close_e2 (n : Nat) (o : Nat) (x1 : Int32) (x2 : Int32) (x3 : Int32) (h : xH) : Zo_close_f (n + 1) 2 o x1 x2 x3 h = Zo_close_t2 (fun p x1 x2 x3 h => Zo_close_f n p o x1 x2 x3 h) n o x1 x2 x3 h := by
  show (if 2 = 0 then Zo_close_t0 (fun p x1 x2 x3 h => Zo_close_f n p o x1 x2 x3 h) n o x1 x2 x3 h else if 2 = 2 then Zo_close_t2 (fun p x1 x2 x3 h => Zo_close_f n p o x1 x2 x3 h) n o x1 x2 x3 h else if 2 = 12 then Zo_close_t12 (fun p x1 x2 x3 h => Zo_close_f n p o x1 x2 x3 h) n o x1 x2 x3 h else if 2 = 22 then Zo_close_t22 (fun p x1 x2 x3 h => Zo_close_f n p o x1 x2 x3 h) n o x1 x2 x3 h else none) = _
  rw [if_neg (by decide), if_pos rfl]
theorem Zo_close_e12 (n : Nat) (o : Nat) (x1 : Int32) (x2 : Int32) (x3 : Int32) (h : xH) : Zo_close_f (n + 1) 12 o x1 x2 x3 h = Zo_close_t12 (fun p x1 x2 x3 h => Zo_close_f n p o x1 x2 x3 h) n o x1 x2 x3 h := by
  show (if 12 = 0 then Zo_close_t0 (fun p x1 x2 x3 h => Zo_close_f n p o x1 x2 x3 h) n o x1 x2 x3 h else if 12 = 2 then Zo_close_t2 (fun p x1 x2 x3 h => Zo_close_f n p o x1 x2 x3 h) n o x1 x2 x3 h else if 12 = 12 then Zo_close_t12 (fun p x1 x2 x3 h => Zo_close_f n p o x1 x2 x3 h) n o x1 x2 x3 h else if 12 = 22 then Zo_close_t22 (fun p x1 x2 x3 h => Zo_close_f n p o x1 x2 x3 h) n o x1 x2 x3 h else none) = _
  rw [if_neg (by decide), if_neg (by decide), if_pos rfl]
theorem Zo_close_e22 (n : Nat) (o : Nat) (x1 : Int32) (x2 : Int32) (x3 : Int32) (h : xH) : Zo_close_f (n + 1) 22 o x1 x2 x3 h = Zo_close_t22 (fun p x1 x2 x3 h => Zo_close_f n p o x1 x2 x3 h) n o x1 x2 x3 h := by
  show (if 22 = 0 then Zo_close_t0 (fun p x1 x2 x3 h => Zo_close_f n p o x1 x2 x3 h) n o x1 x2 x3 h else if 22 = 2 then Zo_close_t2 (fun p x1 x2 x3 h => Zo_close_f n p o x1 x2 x3 h) n o x1 x2 x3 h else if 22 = 12 then Zo_close_t12 (fun p x1 x2 x3 h => Zo_close_f n p o x1 x2 x3 h) n o x1 x2 x3 h else if 22 = 22 then Zo_close_t22 (fun p x1 x2 x3 h => Zo_close_f n p o x1 x2 x3 h) n o x1 x2 x3 h else none) = _
  rw [if_neg (by decide), if_neg (by decide), if_neg (by decide), if_pos rfl]
set_option maxRecDepth 100000 in
set_option maxHeartbeats 8000000 in
theorem Zo_close_x {F : xF} {G : xG} {B sz : Nat} {o : Nat} (C : xC F G B cZo_close RZo 4 1 22 0 0) (hr : (xFM F).sig.returnType = none) : ∀ (n : Nat) (x1 : Int32) (x2 : Int32) (x3 : Int32) (h : xH) (R : Int32 × xH), (Zo_close_f n 0 o x1 x2 x3 h = some R → X F G B (xZ F G B (kP none R.2 sz) 0 0) 4 h sz 0 0 0 [(0, .ref (o))] []) ∧ (Zo_close_f n 2 o x1 x2 x3 h = some R → X F G B (xZ F G B (kP none R.2 sz) 0 0) 4 h sz 0 0 2 [(0, .ref (o)), (1, .int (x1))] []) ∧ (Zo_close_f n 12 o x1 x2 x3 h = some R → X F G B (xZ F G B (kP none R.2 sz) 0 0) 4 h sz 0 0 12 [(0, .ref (o)), (1, .int (x1)), (2, .int (x2))] []) ∧ (Zo_close_f n 22 o x1 x2 x3 h = some R → X F G B (xZ F G B (kP none R.2 sz) 0 0) 4 h sz 0 0 22 [(0, .ref (o)), (1, .int (x1)), (2, .int (x2)), (3, .int (x3))] []) := by
  intro n
  induction n with
  | zero => exact fun _ _ _ _ _ => ⟨(fun hR => nomatch (show (none : Option _) = some _ from hR)), (fun hR => nomatch (show (none : Option _) = some _ from hR)), (fun hR => nomatch (show (none : Option _) = some _ from hR)), (fun hR => nomatch (show (none : Option _) = some _ from hR))⟩
  | succ n ih =>
    intro x1 x2 x3 h R
    refine ⟨fun hR => ?_, fun hR => ?_, fun hR => ?_, fun hR => ?_⟩
    · rw [Zo_close_e0] at hR
      unfold Zo_close_t0 at hR
      refine X_iconst (v := 0) C dZo_close_0 rfl ?_
      refine X_istore_n (lv' := [(1, .int ((0 : Int32))), (0, .ref (o))]) C dZo_close_1 (by decide) rfl ?_
      refine X_sub (lv' := [(0, .ref (o)), (1, .int ((0 : Int32)))]) [1, 0] rfl ?_
      exact (ih ((0 : Int32)) 0 0 _ _).2.1 hR
    · rw [Zo_close_e2] at hR
      unfold Zo_close_t2 at hR
      refine X_iload_n C dZo_close_2 rfl ?_
      refine X_aload_n C dZo_close_3 rfl ?_
      have hq := o_bind hR
      clear hR
      obtain ⟨u1, hx5, hR⟩ := hq
      obtain ⟨fs2, he3, hv4⟩ := gi_e hx5
      refine X_get (k := 0) C oZo fwZo_9 he3 hv4 dZo_close_4 ?_
      refine X_icmp_ge (tgt := 85) C dZo_close_7 (by decide) (fun c6 => ?_) (fun c6 => ?_)
      · rw [if_pos c6] at hR
        rw [← Option.some.inj hR]
        exact X_vret C hr (Nat.le_refl _) (Nat.le_refl _) dZo_close_85 ⟨rfl, rfl, rfl⟩
      · rw [if_neg c6] at hR
        refine X_iconst (v := 0) C dZo_close_10 rfl ?_
        refine X_istore_n (lv' := [(2, .int ((0 : Int32))), (0, .ref (o)), (1, .int (x1))]) C dZo_close_11 (by decide) rfl ?_
        refine X_sub (lv' := [(0, .ref (o)), (1, .int (x1)), (2, .int ((0 : Int32)))]) [1, 2, 0] rfl ?_
        exact (ih (x1) ((0 : Int32)) 0 _ _).2.2.1 hR
    · rw [Zo_close_e12] at hR
      unfold Zo_close_t12 at hR
      refine X_iload_n C dZo_close_12 rfl ?_
      refine X_aload_n C dZo_close_13 rfl ?_
      have hq := o_bind hR
      clear hR
      obtain ⟨u7, hx11, hR⟩ := hq
      obtain ⟨fs8, he9, hv10⟩ := gi_e hx11
      refine X_get (k := 0) C oZo fwZo_9 he9 hv10 dZo_close_14 ?_
      refine X_icmp_ge (tgt := 79) C dZo_close_17 (by decide) (fun c12 => ?_) (fun c12 => ?_)
      · rw [if_pos c12] at hR
        refine X_iinc (v := x1 + 1) (lv' := [(1, .int (x1 + 1)), (0, .ref (o)), (2, .int (x2))]) C dZo_close_79 rfl rfl (by decide) rfl ?_
        refine X_goto (tgt := 2) C dZo_close_82 (by decide) ?_
        refine X_sub (lv' := [(0, .ref (o)), (1, .int (x1 + 1))]) [1, 0] rfl ?_
        exact (ih (x1 + 1) 0 0 _ _).2.1 hR
      · rw [if_neg c12] at hR
        refine X_iconst (v := 0) C dZo_close_20 rfl ?_
        refine X_istore_n (lv' := [(3, .int ((0 : Int32))), (0, .ref (o)), (1, .int (x1)), (2, .int (x2))]) C dZo_close_21 (by decide) rfl ?_
        refine X_sub (lv' := [(0, .ref (o)), (1, .int (x1)), (2, .int (x2)), (3, .int ((0 : Int32)))]) [1, 2, 3, 0] rfl ?_
        exact (ih (x1) (x2) ((0 : Int32)) _ _).2.2.2 hR
    · rw [Zo_close_e22] at hR
      unfold Zo_close_t22 at hR
      refine X_iload_n C dZo_close_22 rfl ?_
      refine X_aload_n C dZo_close_23 rfl ?_
      have hq := o_bind hR
      clear hR
      obtain ⟨u13, hx17, hR⟩ := hq
      obtain ⟨fs14, he15, hv16⟩ := gi_e hx17
      refine X_get (k := 0) C oZo fwZo_9 he15 hv16 dZo_close_24 ?_
      refine X_icmp_ge (tgt := 73) C dZo_close_27 (by decide) (fun c18 => ?_) (fun c18 => ?_)
      · rw [if_pos c18] at hR
        refine X_iinc (v := x2 + 1) (lv' := [(2, .int (x2 + 1)), (0, .ref (o)), (1, .int (x1)), (3, .int (x3))]) C dZo_close_73 rfl rfl (by decide) rfl ?_
        refine X_goto (tgt := 12) C dZo_close_76 (by decide) ?_
        refine X_sub (lv' := [(0, .ref (o)), (1, .int (x1)), (2, .int (x2 + 1))]) [1, 2, 0] rfl ?_
        exact (ih (x1) (x2 + 1) 0 _ _).2.2.1 hR
      · rw [if_neg c18] at hR
        refine X_aload_n C dZo_close_30 rfl ?_
        have hq := o_bind hR
        clear hR
        obtain ⟨w19, hx23, hR⟩ := hq
        obtain ⟨fs20, he21, hv22⟩ := gq_e hx23
        refine X_get (k := 1) C oZo fwZo_15 he21 hv22 dZo_close_31 ?_
        refine X_iload_n C dZo_close_34 rfl ?_
        refine X_aload_n C dZo_close_35 rfl ?_
        have hq := o_bind hR
        clear hR
        obtain ⟨u24, hx28, hR⟩ := hq
        obtain ⟨fs25, he26, hv27⟩ := gi_e hx28
        refine X_get (k := 0) C oZo fwZo_9 he26 hv27 dZo_close_36 ?_
        refine X_imul C dZo_close_39 ?_
        refine X_iload_n C dZo_close_40 rfl ?_
        refine X_iadd C dZo_close_41 ?_
        refine X_aload_n C dZo_close_42 rfl ?_
        refine X_iload_n C dZo_close_43 rfl ?_
        refine X_iload_n C dZo_close_44 rfl ?_
        have hq := o_if hR
        clear hR
        obtain ⟨k47, hR⟩ := hq
        obtain ⟨fs48, he49⟩ := kc_e k47
        have hq := o_bind hR
        clear hR
        obtain ⟨r29, hr29, hR⟩ := hq
        refine X_callVk (As := [.int (x2), .int (x3)]) (rest := [.int (((x2) * (u24)) + (x3)), va_rf (w19)]) C (Zo_at_c hr29) wZo_36 ⟨by decide, by decide⟩ ⟨Nat.le_refl _, Nat.le_refl _⟩ he49 oZo.2.1 rfl rfl (by simp [rf_cat, cat_i, cat_r, cat_l]) dZo_close_45 ?_
        show X F G B _ 4 (r29.2) _ _ _ _ _ [.int (r29.1), .int (((x2) * (u24)) + (x3)), va_rf (w19)]
        refine X_aload_n C dZo_close_48 rfl ?_
        refine X_iload_n C dZo_close_49 rfl ?_
        refine X_iload_n C dZo_close_50 rfl ?_
        have hq := o_if hR
        clear hR
        obtain ⟨k44, hR⟩ := hq
        obtain ⟨fs45, he46⟩ := kc_e k44
        have hq := o_bind hR
        clear hR
        obtain ⟨r30, hr30, hR⟩ := hq
        refine X_callVk (As := [.int (x2), .int (x1)]) (rest := [.int (r29.1), .int (((x2) * (u24)) + (x3)), va_rf (w19)]) C (Zo_at_c hr30) wZo_36 ⟨by decide, by decide⟩ ⟨Nat.le_refl _, Nat.le_refl _⟩ he46 oZo.2.1 rfl rfl (by simp [rf_cat, cat_i, cat_r, cat_l]) dZo_close_51 ?_
        show X F G B _ 4 (r30.2) _ _ _ _ _ [.int (r30.1), .int (r29.1), .int (((x2) * (u24)) + (x3)), va_rf (w19)]
        refine X_aload_n C dZo_close_54 rfl ?_
        refine X_iload_n C dZo_close_55 rfl ?_
        refine X_iload_n C dZo_close_56 rfl ?_
        have hq := o_if hR
        clear hR
        obtain ⟨k41, hR⟩ := hq
        obtain ⟨fs42, he43⟩ := kc_e k41
        have hq := o_bind hR
        clear hR
        obtain ⟨r31, hr31, hR⟩ := hq
        refine X_callVk (As := [.int (x1), .int (x3)]) (rest := [.int (r30.1), .int (r29.1), .int (((x2) * (u24)) + (x3)), va_rf (w19)]) C (Zo_at_c hr31) wZo_36 ⟨by decide, by decide⟩ ⟨Nat.le_refl _, Nat.le_refl _⟩ he43 oZo.2.1 rfl rfl (by simp [rf_cat, cat_i, cat_r, cat_l]) dZo_close_57 ?_
        show X F G B _ 4 (r31.2) _ _ _ _ _ [.int (r31.1), .int (r30.1), .int (r29.1), .int (((x2) * (u24)) + (x3)), va_rf (w19)]
        have hq := o_bind hR
        clear hR
        obtain ⟨r32, hr32, hR⟩ := hq
        refine X_callSk (As := [.int (r30.1), .int (r31.1)]) (rest := [.int (r29.1), .int (((x2) * (u24)) + (x3)), va_rf (w19)]) C (Zo_sum_c hr32) wZo_40 ⟨by decide, by decide⟩ ⟨Nat.le_refl _, Nat.le_refl _⟩ rfl rfl (by simp [rf_cat, cat_i, cat_r, cat_l]) dZo_close_60 ?_
        show X F G B _ 4 (r32.2) _ _ _ _ _ [.int (r32.1), .int (r29.1), .int (((x2) * (u24)) + (x3)), va_rf (w19)]
        refine X_min C mwZo_43 ⟨by decide, by simp [rf_cat, cat_i, cat_r, cat_l]⟩ ⟨Nat.le_refl _, Nat.le_refl _⟩ dZo_close_63 ?_
        have hq := o_bind hR
        clear hR
        obtain ⟨a33, rfl, hR⟩ := hq
        have hq := o_bind hR
        clear hR
        obtain ⟨h34, hh35, hR⟩ := hq
        obtain ⟨n36, f37, he38, hi39, e40⟩ := pa_e hh35
        refine X_iast C rfl he38 hi39 dZo_close_66 ?_
        rw [← e40]
        refine X_iinc (v := x3 + 1) (lv' := [(3, .int (x3 + 1)), (0, .ref (o)), (1, .int (x1)), (2, .int (x2))]) C dZo_close_67 rfl rfl (by decide) rfl ?_
        refine X_goto (tgt := 22) C dZo_close_70 (by decide) ?_
        refine X_sub (lv' := [(0, .ref (o)), (1, .int (x1)), (2, .int (x2)), (3, .int (x3 + 1))]) [1, 2, 3, 0] rfl ?_
        exact (ih (x1) (x2) (x3 + 1) _ _).2.2.2 hR
theorem Zo_close_c {l : Launch} {G : xG} {B sz : Nat} {o : Nat} {n : Nat} {h : xH} {R : Int32 × xH} (hR : Zo_close_f n 0 o 0 0 0 h = some R) : xCon l yZo_close cZo_close 4 none 1 22 0 0 G B [.ref (o)] h sz (kP none R.2 sz) := xCon.of (by decide) (by exact Nat.le_of_ble_eq_true rfl) (fun F e C hr _ => X_sub (lv' := [(0, .ref (o))]) [0] rfl ((Zo_close_x C hr n 0 0 0 h R).1 hR))
def Zo_loosen_t0 (f : Nat → Option Nat → Int32 → Int32 → Int32 → xH → Option (Int32 × xH)) (n : Nat) (o : Nat) (y1 : Option Nat) (x2 : Int32) (x3 : Int32) (x4 : Int32) (h : xH) : Option (Int32 × xH) := obd (gi h (o) 1 2) (fun u1 => (if u1 = 0 then obd y1 (fun a7 => obd (al h (a7) 0) (fun u8 => obd (gi h (o) 1 0) (fun u13 => (if u8 = u13 then f 21 (some (a7)) ((0 : Int32)) ((0 : Int32)) 0 h else some (0, h))))) else some (0, h)))
def Zo_loosen_t21 (f : Nat → Option Nat → Int32 → Int32 → Int32 → xH → Option (Int32 × xH)) (n : Nat) (o : Nat) (y1 : Option Nat) (x2 : Int32) (x3 : Int32) (x4 : Int32) (h : xH) : Option (Int32 × xH) := obd (gi h (o) 1 0) (fun u19 => (if u19 ≤ x3 then (if x2 = 0 then some (0, h) else (if kc h (o) 1 = true then obd (Zo_close_f n 0 (o) 0 0 0 h) (fun r26 => some (0, r26.2)) else none)) else f 32 (y1) (x2) (x3) ((0 : Int32)) h))
def Zo_loosen_t32 (f : Nat → Option Nat → Int32 → Int32 → Int32 → xH → Option (Int32 × xH)) (n : Nat) (o : Nat) (y1 : Option Nat) (x2 : Int32) (x3 : Int32) (x4 : Int32) (h : xH) : Option (Int32 × xH) := obd (gi h (o) 1 0) (fun u30 => (if u30 ≤ x4 then f 21 (y1) (x2) (x3 + 1) 0 h else (if kc h (o) 1 = true then obd (Zo_at_f n (o) (x3) (x4) h) (fun r36 => obd y1 (fun a37 => obd (ai r36.2 (a37) 0 (x3)) (fun u38 => obd (ai r36.2 (a37) 0 (x4)) (fun u45 => obd (Zo_loosened_f n (x3) (r36.1) (u38) (u45) r36.2) (fun r52 => (if x2 = 0 then (if kc r52.2 (o) 1 = true then obd (Zo_at_f n (o) (x3) (x4) r52.2) (fun r72 => (if r52.1 = r72.1 then obd (gq r72.2 (o) 1 1) (fun w74 => obd (gi r72.2 (o) 1 0) (fun u79 => obd w74 (fun a84 => obd (pa r72.2 (a84) 0 (((x3) * (u79)) + (x4)) (r52.1)) (fun h85 => f 32 (some (a37)) ((0 : Int32)) (x3) (x4 + 1) h85)))) else obd (gq r72.2 (o) 1 1) (fun w92 => obd (gi r72.2 (o) 1 0) (fun u97 => obd w92 (fun a102 => obd (pa r72.2 (a102) 0 (((x3) * (u97)) + (x4)) (r52.1)) (fun h103 => f 32 (some (a37)) ((1 : Int32)) (x3) (x4 + 1) h103)))))) else none) else obd (gq r52.2 (o) 1 1) (fun w54 => obd (gi r52.2 (o) 1 0) (fun u59 => obd w54 (fun a64 => obd (pa r52.2 (a64) 0 (((x3) * (u59)) + (x4)) (r52.1)) (fun h65 => f 32 (some (a37)) ((1 : Int32)) (x3) (x4 + 1) h65)))))))))) else none)))
def Zo_loosen_f : Nat → Nat → Nat → Option Nat → Int32 → Int32 → Int32 → xH → Option (Int32 × xH)
  | 0 => fun _ _ _ _ _ _ _ => none
  | n + 1 => fun p o y1 x2 x3 x4 h => if p = 0 then Zo_loosen_t0 (fun p y1 x2 x3 x4 h => Zo_loosen_f n p o y1 x2 x3 x4 h) n o y1 x2 x3 x4 h else if p = 21 then Zo_loosen_t21 (fun p y1 x2 x3 x4 h => Zo_loosen_f n p o y1 x2 x3 x4 h) n o y1 x2 x3 x4 h else if p = 32 then Zo_loosen_t32 (fun p y1 x2 x3 x4 h => Zo_loosen_f n p o y1 x2 x3 x4 h) n o y1 x2 x3 x4 h else none
theorem Zo_loosen_e0 (n : Nat) (o : Nat) (y1 : Option Nat) (x2 : Int32) (x3 : Int32) (x4 : Int32) (h : xH) : Zo_loosen_f (n + 1) 0 o y1 x2 x3 x4 h = Zo_loosen_t0 (fun p y1 x2 x3 x4 h => Zo_loosen_f n p o y1 x2 x3 x4 h) n o y1 x2 x3 x4 h := by
  show (if 0 = 0 then Zo_loosen_t0 (fun p y1 x2 x3 x4 h => Zo_loosen_f n p o y1 x2 x3 x4 h) n o y1 x2 x3 x4 h else if 0 = 21 then Zo_loosen_t21 (fun p y1 x2 x3 x4 h => Zo_loosen_f n p o y1 x2 x3 x4 h) n o y1 x2 x3 x4 h else if 0 = 32 then Zo_loosen_t32 (fun p y1 x2 x3 x4 h => Zo_loosen_f n p o y1 x2 x3 x4 h) n o y1 x2 x3 x4 h else none) = _
  rw [if_pos rfl]
theorem Zo_loosen_e21 (n : Nat) (o : Nat) (y1 : Option Nat) (x2 : Int32) (x3 : Int32) (x4 : Int32) (h : xH) : Zo_loosen_f (n + 1) 21 o y1 x2 x3 x4 h = Zo_loosen_t21 (fun p y1 x2 x3 x4 h => Zo_loosen_f n p o y1 x2 x3 x4 h) n o y1 x2 x3 x4 h := by
  show (if 21 = 0 then Zo_loosen_t0 (fun p y1 x2 x3 x4 h => Zo_loosen_f n p o y1 x2 x3 x4 h) n o y1 x2 x3 x4 h else if 21 = 21 then Zo_loosen_t21 (fun p y1 x2 x3 x4 h => Zo_loosen_f n p o y1 x2 x3 x4 h) n o y1 x2 x3 x4 h else if 21 = 32 then Zo_loosen_t32 (fun p y1 x2 x3 x4 h => Zo_loosen_f n p o y1 x2 x3 x4 h) n o y1 x2 x3 x4 h else none) = _
  rw [if_neg (by decide), if_pos rfl]
theorem Zo_loosen_e32 (n : Nat) (o : Nat) (y1 : Option Nat) (x2 : Int32) (x3 : Int32) (x4 : Int32) (h : xH) : Zo_loosen_f (n + 1) 32 o y1 x2 x3 x4 h = Zo_loosen_t32 (fun p y1 x2 x3 x4 h => Zo_loosen_f n p o y1 x2 x3 x4 h) n o y1 x2 x3 x4 h := by
  show (if 32 = 0 then Zo_loosen_t0 (fun p y1 x2 x3 x4 h => Zo_loosen_f n p o y1 x2 x3 x4 h) n o y1 x2 x3 x4 h else if 32 = 21 then Zo_loosen_t21 (fun p y1 x2 x3 x4 h => Zo_loosen_f n p o y1 x2 x3 x4 h) n o y1 x2 x3 x4 h else if 32 = 32 then Zo_loosen_t32 (fun p y1 x2 x3 x4 h => Zo_loosen_f n p o y1 x2 x3 x4 h) n o y1 x2 x3 x4 h else none) = _
  rw [if_neg (by decide), if_neg (by decide), if_pos rfl]
set_option maxRecDepth 100000 in
set_option maxHeartbeats 8000000 in
theorem Zo_loosen_x {F : xF} {G : xG} {B sz : Nat} {o : Nat} (C : xC F G B cZo_loosen RZo 6 2 45 0 0) (hr : (xFM F).sig.returnType = none) : ∀ (n : Nat) (y1 : Option Nat) (x2 : Int32) (x3 : Int32) (x4 : Int32) (h : xH) (R : Int32 × xH), (Zo_loosen_f n 0 o y1 x2 x3 x4 h = some R → X F G B (xZ F G B (kP none R.2 sz) 0 0) 6 h sz 0 0 0 [(0, .ref (o)), (1, va_rf (y1))] []) ∧ (Zo_loosen_f n 21 o y1 x2 x3 x4 h = some R → X F G B (xZ F G B (kP none R.2 sz) 0 0) 6 h sz 0 0 21 [(0, .ref (o)), (1, va_rf (y1)), (2, .int (x2)), (3, .int (x3))] []) ∧ (Zo_loosen_f n 32 o y1 x2 x3 x4 h = some R → X F G B (xZ F G B (kP none R.2 sz) 0 0) 6 h sz 0 0 32 [(0, .ref (o)), (1, va_rf (y1)), (2, .int (x2)), (3, .int (x3)), (4, .int (x4))] []) := by
  intro n
  induction n with
  | zero => exact fun _ _ _ _ _ _ => ⟨(fun hR => nomatch (show (none : Option _) = some _ from hR)), (fun hR => nomatch (show (none : Option _) = some _ from hR)), (fun hR => nomatch (show (none : Option _) = some _ from hR))⟩
  | succ n ih =>
    intro y1 x2 x3 x4 h R
    refine ⟨fun hR => ?_, fun hR => ?_, fun hR => ?_⟩
    · rw [Zo_loosen_e0] at hR
      unfold Zo_loosen_t0 at hR
      refine X_aload_n C dZo_loosen_0 rfl ?_
      have hq := o_bind hR
      clear hR
      obtain ⟨u1, hx5, hR⟩ := hq
      obtain ⟨fs2, he3, hv4⟩ := gi_e hx5
      refine X_get (k := 2) C oZo fwZo_26 he3 hv4 dZo_loosen_1 ?_
      refine X_if_ne (tgt := 16) C dZo_loosen_4 (by decide) (fun c6 => ?_) (fun c6 => ?_)
      · rw [if_neg c6] at hR
        rw [← Option.some.inj hR]
        exact X_vret C hr (Nat.le_refl _) (Nat.le_refl _) dZo_loosen_16 ⟨rfl, rfl, rfl⟩
      · rw [if_pos c6] at hR
        refine X_aload_nq C dZo_loosen_7 rfl ?_
        have hq := o_bind hR
        clear hR
        obtain ⟨a7, rfl, hR⟩ := hq
        have hq := o_bind hR
        clear hR
        obtain ⟨u8, hx9, hR⟩ := hq
        obtain ⟨v10, he11, e12⟩ := al_e hx9
        refine X_alen C rfl he11 e12 dZo_loosen_8 ?_
        refine X_aload_n C dZo_loosen_9 rfl ?_
        have hq := o_bind hR
        clear hR
        obtain ⟨u13, hx17, hR⟩ := hq
        obtain ⟨fs14, he15, hv16⟩ := gi_e hx17
        refine X_get (k := 0) C oZo fwZo_9 he15 hv16 dZo_loosen_10 ?_
        refine X_icmp_eq (tgt := 17) C dZo_loosen_13 (by decide) (fun c18 => ?_) (fun c18 => ?_)
        · rw [if_pos c18] at hR
          refine X_iconst (v := 0) C dZo_loosen_17 rfl ?_
          refine X_istore_n (lv' := [(2, .int ((0 : Int32))), (0, .ref (o)), (1, .ref (a7))]) C dZo_loosen_18 (by decide) rfl ?_
          refine X_iconst (v := 0) C dZo_loosen_19 rfl ?_
          refine X_istore_n (lv' := [(3, .int ((0 : Int32))), (2, .int ((0 : Int32))), (0, .ref (o)), (1, .ref (a7))]) C dZo_loosen_20 (by decide) rfl ?_
          refine X_sub (lv' := [(0, .ref (o)), (1, va_rf ((some (a7)))), (2, .int ((0 : Int32))), (3, .int ((0 : Int32)))]) [2, 3, 1, 0] rfl ?_
          exact (ih (some (a7)) ((0 : Int32)) ((0 : Int32)) 0 _ _).2.1 hR
        · rw [if_neg c18] at hR
          rw [← Option.some.inj hR]
          exact X_vret C hr (Nat.le_refl _) (Nat.le_refl _) dZo_loosen_16 ⟨rfl, rfl, rfl⟩
    · rw [Zo_loosen_e21] at hR
      unfold Zo_loosen_t21 at hR
      refine X_iload_n C dZo_loosen_21 rfl ?_
      refine X_aload_n C dZo_loosen_22 rfl ?_
      have hq := o_bind hR
      clear hR
      obtain ⟨u19, hx23, hR⟩ := hq
      obtain ⟨fs20, he21, hv22⟩ := gi_e hx23
      refine X_get (k := 0) C oZo fwZo_9 he21 hv22 dZo_loosen_23 ?_
      refine X_icmp_ge (tgt := 111) C dZo_loosen_26 (by decide) (fun c24 => ?_) (fun c24 => ?_)
      · rw [if_pos c24] at hR
        refine X_iload_n C dZo_loosen_111 rfl ?_
        refine X_if_eq (tgt := 119) C dZo_loosen_112 (by decide) (fun c25 => ?_) (fun c25 => ?_)
        · rw [if_pos c25] at hR
          rw [← Option.some.inj hR]
          exact X_vret C hr (Nat.le_refl _) (Nat.le_refl _) dZo_loosen_119 ⟨rfl, rfl, rfl⟩
        · rw [if_neg c25] at hR
          refine X_aload_n C dZo_loosen_115 rfl ?_
          have hq := o_if hR
          clear hR
          obtain ⟨k27, hR⟩ := hq
          obtain ⟨fs28, he29⟩ := kc_e k27
          have hq := o_bind hR
          clear hR
          obtain ⟨r26, hr26, hR⟩ := hq
          refine X_callVk (As := []) (rest := []) C (Zo_close_c hr26) wZo_60 ⟨by decide, by decide⟩ ⟨Nat.le_refl _, Nat.le_refl _⟩ he29 oZo.2.1 rfl rfl (Nat.le_of_ble_eq_true rfl) dZo_loosen_116 ?_
          show X F G B _ 6 (r26.2) _ _ _ _ _ []
          rw [← Option.some.inj hR]
          exact X_vret C hr (Nat.le_refl _) (Nat.le_refl _) dZo_loosen_119 ⟨rfl, rfl, rfl⟩
      · rw [if_neg c24] at hR
        refine X_iconst (v := 0) C dZo_loosen_29 rfl ?_
        refine X_istore (lv' := [(4, .int ((0 : Int32))), (0, .ref (o)), (1, va_rf (y1)), (2, .int (x2)), (3, .int (x3))]) C dZo_loosen_30 (by decide) (by simp [rf_cat, cat_i, cat_r, cat_l, rf_n, rf_s] <;> decide) ?_
        refine X_sub (lv' := [(0, .ref (o)), (1, va_rf ((y1))), (2, .int (x2)), (3, .int (x3)), (4, .int ((0 : Int32)))]) [1, 2, 3, 4, 0] rfl ?_
        exact (ih (y1) (x2) (x3) ((0 : Int32)) _ _).2.2 hR
    · rw [Zo_loosen_e32] at hR
      unfold Zo_loosen_t32 at hR
      refine X_iload C dZo_loosen_32 rfl ?_
      refine X_aload_n C dZo_loosen_34 rfl ?_
      have hq := o_bind hR
      clear hR
      obtain ⟨u30, hx34, hR⟩ := hq
      obtain ⟨fs31, he32, hv33⟩ := gi_e hx34
      refine X_get (k := 0) C oZo fwZo_9 he32 hv33 dZo_loosen_35 ?_
      refine X_icmp_ge (tgt := 105) C dZo_loosen_38 (by decide) (fun c35 => ?_) (fun c35 => ?_)
      · rw [if_pos c35] at hR
        refine X_iinc (v := x3 + 1) (lv' := [(3, .int (x3 + 1)), (0, .ref (o)), (1, va_rf (y1)), (2, .int (x2)), (4, .int (x4))]) C dZo_loosen_105 rfl rfl (by decide) (by simp [rf_cat, cat_i, cat_r, cat_l, rf_n, rf_s] <;> decide) ?_
        refine X_goto (tgt := 21) C dZo_loosen_108 (by decide) ?_
        refine X_sub (lv' := [(0, .ref (o)), (1, va_rf ((y1))), (2, .int (x2)), (3, .int (x3 + 1))]) [1, 2, 3, 0] rfl ?_
        exact (ih (y1) (x2) (x3 + 1) 0 _ _).2.1 hR
      · rw [if_neg c35] at hR
        refine X_iload_n C dZo_loosen_41 rfl ?_
        refine X_aload_n C dZo_loosen_42 rfl ?_
        refine X_iload_n C dZo_loosen_43 rfl ?_
        refine X_iload C dZo_loosen_44 rfl ?_
        have hq := o_if hR
        clear hR
        obtain ⟨k113, hR⟩ := hq
        obtain ⟨fs114, he115⟩ := kc_e k113
        have hq := o_bind hR
        clear hR
        obtain ⟨r36, hr36, hR⟩ := hq
        refine X_callVk (As := [.int (x3), .int (x4)]) (rest := [.int (x3)]) C (Zo_at_c hr36) wZo_36 ⟨by decide, by decide⟩ ⟨Nat.le_refl _, Nat.le_refl _⟩ he115 oZo.2.1 rfl rfl (Nat.le_of_ble_eq_true rfl) dZo_loosen_46 ?_
        show X F G B _ 6 (r36.2) _ _ _ _ _ [.int (r36.1), .int (x3)]
        refine X_aload_nq C dZo_loosen_49 rfl ?_
        refine X_iload_n C dZo_loosen_50 rfl ?_
        have hq := o_bind hR
        clear hR
        obtain ⟨a37, rfl, hR⟩ := hq
        have hq := o_bind hR
        clear hR
        obtain ⟨u38, hx39, hR⟩ := hq
        obtain ⟨n40, f41, he42, hi43, e44⟩ := ai_e hx39
        refine X_iald C rfl he42 hi43 dZo_loosen_51 ?_
        rw [← e44]
        refine X_aload_n C dZo_loosen_52 rfl ?_
        refine X_iload C dZo_loosen_53 rfl ?_
        have hq := o_bind hR
        clear hR
        obtain ⟨u45, hx46, hR⟩ := hq
        obtain ⟨n47, f48, he49, hi50, e51⟩ := ai_e hx46
        refine X_iald C rfl he49 hi50 dZo_loosen_55 ?_
        rw [← e51]
        have hq := o_bind hR
        clear hR
        obtain ⟨r52, hr52, hR⟩ := hq
        refine X_callSk (As := [.int (x3), .int (r36.1), .int (u38), .int (u45)]) (rest := []) C (Zo_loosened_c hr52) wZo_56 ⟨by decide, by decide⟩ ⟨Nat.le_refl _, Nat.le_refl _⟩ rfl rfl (Nat.le_of_ble_eq_true rfl) dZo_loosen_56 ?_
        show X F G B _ 6 (r52.2) _ _ _ _ _ [.int (r52.1)]
        refine X_istore (lv' := [(5, .int (r52.1)), (0, .ref (o)), (1, .ref (a37)), (2, .int (x2)), (3, .int (x3)), (4, .int (x4))]) C dZo_loosen_59 (by decide) rfl ?_
        refine X_iload_n C dZo_loosen_61 rfl ?_
        refine X_if_ne (tgt := 77) C dZo_loosen_62 (by decide) (fun c53 => ?_) (fun c53 => ?_)
        · rw [if_neg c53] at hR
          refine X_iconst (v := 1) C dZo_loosen_77 rfl ?_
          refine X_goto (tgt := 82) C dZo_loosen_78 (by decide) ?_
          refine X_istore_n (lv' := [(2, .int ((1 : Int32))), (5, .int (r52.1)), (0, .ref (o)), (1, .ref (a37)), (3, .int (x3)), (4, .int (x4))]) C dZo_loosen_82 (by decide) rfl ?_
          refine X_aload_n C dZo_loosen_83 rfl ?_
          have hq := o_bind hR
          clear hR
          obtain ⟨w54, hx58, hR⟩ := hq
          obtain ⟨fs55, he56, hv57⟩ := gq_e hx58
          refine X_get (k := 1) C oZo fwZo_15 he56 hv57 dZo_loosen_84 ?_
          refine X_iload_n C dZo_loosen_87 rfl ?_
          refine X_aload_n C dZo_loosen_88 rfl ?_
          have hq := o_bind hR
          clear hR
          obtain ⟨u59, hx63, hR⟩ := hq
          obtain ⟨fs60, he61, hv62⟩ := gi_e hx63
          refine X_get (k := 0) C oZo fwZo_9 he61 hv62 dZo_loosen_89 ?_
          refine X_imul C dZo_loosen_92 ?_
          refine X_iload C dZo_loosen_93 rfl ?_
          refine X_iadd C dZo_loosen_95 ?_
          refine X_iload C dZo_loosen_96 rfl ?_
          have hq := o_bind hR
          clear hR
          obtain ⟨a64, rfl, hR⟩ := hq
          have hq := o_bind hR
          clear hR
          obtain ⟨h65, hh66, hR⟩ := hq
          obtain ⟨n67, f68, he69, hi70, e71⟩ := pa_e hh66
          refine X_iast C rfl he69 hi70 dZo_loosen_98 ?_
          rw [← e71]
          refine X_iinc (v := x4 + 1) (lv' := [(4, .int (x4 + 1)), (2, .int ((1 : Int32))), (5, .int (r52.1)), (0, .ref (o)), (1, .ref (a37)), (3, .int (x3))]) C dZo_loosen_99 rfl rfl (by decide) rfl ?_
          refine X_goto (tgt := 32) C dZo_loosen_102 (by decide) ?_
          refine X_sub (lv' := [(0, .ref (o)), (1, va_rf ((some (a37)))), (2, .int ((1 : Int32))), (3, .int (x3)), (4, .int (x4 + 1))]) [3, 4, 1, 5, 0] rfl ?_
          exact (ih (some (a37)) ((1 : Int32)) (x3) (x4 + 1) _ _).2.2 hR
        · rw [if_pos c53] at hR
          refine X_iload C dZo_loosen_65 rfl ?_
          refine X_aload_n C dZo_loosen_67 rfl ?_
          refine X_iload_n C dZo_loosen_68 rfl ?_
          refine X_iload C dZo_loosen_69 rfl ?_
          have hq := o_if hR
          clear hR
          obtain ⟨k110, hR⟩ := hq
          obtain ⟨fs111, he112⟩ := kc_e k110
          have hq := o_bind hR
          clear hR
          obtain ⟨r72, hr72, hR⟩ := hq
          refine X_callVk (As := [.int (x3), .int (x4)]) (rest := [.int (r52.1)]) C (Zo_at_c hr72) wZo_36 ⟨by decide, by decide⟩ ⟨Nat.le_refl _, Nat.le_refl _⟩ he112 oZo.2.1 rfl rfl (Nat.le_of_ble_eq_true rfl) dZo_loosen_71 ?_
          show X F G B _ 6 (r72.2) _ _ _ _ _ [.int (r72.1), .int (r52.1)]
          refine X_icmp_eq (tgt := 81) C dZo_loosen_74 (by decide) (fun c73 => ?_) (fun c73 => ?_)
          · rw [if_pos c73] at hR
            refine X_iconst (v := 0) C dZo_loosen_81 rfl ?_
            refine X_istore_n (lv' := [(2, .int ((0 : Int32))), (5, .int (r52.1)), (0, .ref (o)), (1, .ref (a37)), (3, .int (x3)), (4, .int (x4))]) C dZo_loosen_82 (by decide) rfl ?_
            refine X_aload_n C dZo_loosen_83 rfl ?_
            have hq := o_bind hR
            clear hR
            obtain ⟨w74, hx78, hR⟩ := hq
            obtain ⟨fs75, he76, hv77⟩ := gq_e hx78
            refine X_get (k := 1) C oZo fwZo_15 he76 hv77 dZo_loosen_84 ?_
            refine X_iload_n C dZo_loosen_87 rfl ?_
            refine X_aload_n C dZo_loosen_88 rfl ?_
            have hq := o_bind hR
            clear hR
            obtain ⟨u79, hx83, hR⟩ := hq
            obtain ⟨fs80, he81, hv82⟩ := gi_e hx83
            refine X_get (k := 0) C oZo fwZo_9 he81 hv82 dZo_loosen_89 ?_
            refine X_imul C dZo_loosen_92 ?_
            refine X_iload C dZo_loosen_93 rfl ?_
            refine X_iadd C dZo_loosen_95 ?_
            refine X_iload C dZo_loosen_96 rfl ?_
            have hq := o_bind hR
            clear hR
            obtain ⟨a84, rfl, hR⟩ := hq
            have hq := o_bind hR
            clear hR
            obtain ⟨h85, hh86, hR⟩ := hq
            obtain ⟨n87, f88, he89, hi90, e91⟩ := pa_e hh86
            refine X_iast C rfl he89 hi90 dZo_loosen_98 ?_
            rw [← e91]
            refine X_iinc (v := x4 + 1) (lv' := [(4, .int (x4 + 1)), (2, .int ((0 : Int32))), (5, .int (r52.1)), (0, .ref (o)), (1, .ref (a37)), (3, .int (x3))]) C dZo_loosen_99 rfl rfl (by decide) rfl ?_
            refine X_goto (tgt := 32) C dZo_loosen_102 (by decide) ?_
            refine X_sub (lv' := [(0, .ref (o)), (1, va_rf ((some (a37)))), (2, .int ((0 : Int32))), (3, .int (x3)), (4, .int (x4 + 1))]) [3, 4, 1, 5, 0] rfl ?_
            exact (ih (some (a37)) ((0 : Int32)) (x3) (x4 + 1) _ _).2.2 hR
          · rw [if_neg c73] at hR
            refine X_iconst (v := 1) C dZo_loosen_77 rfl ?_
            refine X_goto (tgt := 82) C dZo_loosen_78 (by decide) ?_
            refine X_istore_n (lv' := [(2, .int ((1 : Int32))), (5, .int (r52.1)), (0, .ref (o)), (1, .ref (a37)), (3, .int (x3)), (4, .int (x4))]) C dZo_loosen_82 (by decide) rfl ?_
            refine X_aload_n C dZo_loosen_83 rfl ?_
            have hq := o_bind hR
            clear hR
            obtain ⟨w92, hx96, hR⟩ := hq
            obtain ⟨fs93, he94, hv95⟩ := gq_e hx96
            refine X_get (k := 1) C oZo fwZo_15 he94 hv95 dZo_loosen_84 ?_
            refine X_iload_n C dZo_loosen_87 rfl ?_
            refine X_aload_n C dZo_loosen_88 rfl ?_
            have hq := o_bind hR
            clear hR
            obtain ⟨u97, hx101, hR⟩ := hq
            obtain ⟨fs98, he99, hv100⟩ := gi_e hx101
            refine X_get (k := 0) C oZo fwZo_9 he99 hv100 dZo_loosen_89 ?_
            refine X_imul C dZo_loosen_92 ?_
            refine X_iload C dZo_loosen_93 rfl ?_
            refine X_iadd C dZo_loosen_95 ?_
            refine X_iload C dZo_loosen_96 rfl ?_
            have hq := o_bind hR
            clear hR
            obtain ⟨a102, rfl, hR⟩ := hq
            have hq := o_bind hR
            clear hR
            obtain ⟨h103, hh104, hR⟩ := hq
            obtain ⟨n105, f106, he107, hi108, e109⟩ := pa_e hh104
            refine X_iast C rfl he107 hi108 dZo_loosen_98 ?_
            rw [← e109]
            refine X_iinc (v := x4 + 1) (lv' := [(4, .int (x4 + 1)), (2, .int ((1 : Int32))), (5, .int (r52.1)), (0, .ref (o)), (1, .ref (a37)), (3, .int (x3))]) C dZo_loosen_99 rfl rfl (by decide) rfl ?_
            refine X_goto (tgt := 32) C dZo_loosen_102 (by decide) ?_
            refine X_sub (lv' := [(0, .ref (o)), (1, va_rf ((some (a37)))), (2, .int ((1 : Int32))), (3, .int (x3)), (4, .int (x4 + 1))]) [3, 4, 1, 5, 0] rfl ?_
            exact (ih (some (a37)) ((1 : Int32)) (x3) (x4 + 1) _ _).2.2 hR
theorem Zo_loosen_c {l : Launch} {G : xG} {B sz : Nat} {o : Nat} {n : Nat} {y1 : Option Nat} {h : xH} {R : Int32 × xH} (hR : Zo_loosen_f n 0 o y1 0 0 0 h = some R) : xCon l yZo_loosen cZo_loosen 6 none 2 45 0 0 G B [.ref (o), va_rf (y1)] h sz (kP none R.2 sz) := xCon.of (by decide) (by simp [lg_sl, rf_cat, cat_i, cat_r, cat_l]) (fun F e C hr _ => X_sub (lv' := [(0, .ref (o)), (1, va_rf (y1))]) [0, 1] (by simp [lv_args, lv_pick, rf_cat, cat_i, cat_r, cat_l]) ((Zo_loosen_x C hr n y1 0 0 0 h R).1 hR))
def Ti_isClock_f (n : Nat) (x0 : Int32) (h : xH) : Option (Int32 × xH) := (if x0 < 0 then some ((0 : Int32), h) else (if (4 : Int32) ≤ x0 then some ((0 : Int32), h) else some ((1 : Int32), h)))
set_option maxRecDepth 100000 in
set_option maxHeartbeats 8000000 in
theorem Ti_isClock_x {F : xF} {G : xG} {B sz : Nat} (C : xC F G B cTi_isClock RTi 1 0 0 0 0) (hr : (xFM F).sig.returnType = (some .boolean)) {n : Nat} {x0 : Int32} {h : xH} {R : Int32 × xH} (hR : Ti_isClock_f n x0 h = some R) : X F G B (xZ F G B (kP (some (.int R.1)) R.2 sz) 0 0) 1 h sz 0 0 0 [(0, .int (x0))] [] := by
  unfold Ti_isClock_f at hR
  refine X_iload_n C dTi_isClock_0 rfl ?_
  refine X_if_lt (tgt := 13) C dTi_isClock_1 (by decide) (fun c1 => ?_) (fun c1 => ?_)
  · rw [if_pos c1] at hR
    refine X_iconst (v := 0) C dTi_isClock_13 rfl ?_
    rw [← Option.some.inj hR]
    exact X_zret C hr rfl (Nat.le_refl _) (Nat.le_refl _) dTi_isClock_14 ⟨rfl, rfl, rfl⟩
  · rw [if_neg c1] at hR
    refine X_iload_n C dTi_isClock_4 rfl ?_
    refine X_iconst (v := 4) C dTi_isClock_5 rfl ?_
    refine X_icmp_ge (tgt := 13) C dTi_isClock_6 (by decide) (fun c2 => ?_) (fun c2 => ?_)
    · rw [if_pos c2] at hR
      refine X_iconst (v := 0) C dTi_isClock_13 rfl ?_
      rw [← Option.some.inj hR]
      exact X_zret C hr rfl (Nat.le_refl _) (Nat.le_refl _) dTi_isClock_14 ⟨rfl, rfl, rfl⟩
    · rw [if_neg c2] at hR
      refine X_iconst (v := 1) C dTi_isClock_9 rfl ?_
      refine X_goto (tgt := 14) C dTi_isClock_10 (by decide) ?_
      rw [← Option.some.inj hR]
      exact X_zret C hr rfl (Nat.le_refl _) (Nat.le_refl _) dTi_isClock_14 ⟨rfl, rfl, rfl⟩
theorem Ti_isClock_c {l : Launch} {G : xG} {B sz : Nat} {n : Nat} {x0 : Int32} {h : xH} {R : Int32 × xH} (hR : Ti_isClock_f n x0 h = some R) : xCon l yTi_isClock cTi_isClock 1 (some .boolean) 0 0 0 0 G B [.int (x0)] h sz (kP (some (.int R.1)) R.2 sz) := xCon.of (by decide) (by exact Nat.le_of_ble_eq_true rfl) (fun F e C hr _ => X_sub (lv' := [(0, .int (x0))]) [0] rfl (Ti_isClock_x C hr hR))
def Ti_isBetween_f (n : Nat) (x0 : Int32) (x1 : Int32) (x2 : Int32) (h : xH) : Option (Int32 × xH) := (if x0 < x1 then some ((0 : Int32), h) else (if x2 < x0 then some ((0 : Int32), h) else some ((1 : Int32), h)))
set_option maxRecDepth 100000 in
set_option maxHeartbeats 8000000 in
theorem Ti_isBetween_x {F : xF} {G : xG} {B sz : Nat} (C : xC F G B cTi_isBetween RTi 3 0 0 0 0) (hr : (xFM F).sig.returnType = (some .boolean)) {n : Nat} {x0 : Int32} {x1 : Int32} {x2 : Int32} {h : xH} {R : Int32 × xH} (hR : Ti_isBetween_f n x0 x1 x2 h = some R) : X F G B (xZ F G B (kP (some (.int R.1)) R.2 sz) 0 0) 3 h sz 0 0 0 [(0, .int (x0)), (1, .int (x1)), (2, .int (x2))] [] := by
  unfold Ti_isBetween_f at hR
  refine X_iload_n C dTi_isBetween_0 rfl ?_
  refine X_iload_n C dTi_isBetween_1 rfl ?_
  refine X_icmp_lt (tgt := 14) C dTi_isBetween_2 (by decide) (fun c1 => ?_) (fun c1 => ?_)
  · rw [if_pos c1] at hR
    refine X_iconst (v := 0) C dTi_isBetween_14 rfl ?_
    rw [← Option.some.inj hR]
    exact X_zret C hr rfl (Nat.le_refl _) (Nat.le_refl _) dTi_isBetween_15 ⟨rfl, rfl, rfl⟩
  · rw [if_neg c1] at hR
    refine X_iload_n C dTi_isBetween_5 rfl ?_
    refine X_iload_n C dTi_isBetween_6 rfl ?_
    refine X_icmp_gt (tgt := 14) C dTi_isBetween_7 (by decide) (fun c2 => ?_) (fun c2 => ?_)
    · rw [if_pos c2] at hR
      refine X_iconst (v := 0) C dTi_isBetween_14 rfl ?_
      rw [← Option.some.inj hR]
      exact X_zret C hr rfl (Nat.le_refl _) (Nat.le_refl _) dTi_isBetween_15 ⟨rfl, rfl, rfl⟩
    · rw [if_neg c2] at hR
      refine X_iconst (v := 1) C dTi_isBetween_10 rfl ?_
      refine X_goto (tgt := 15) C dTi_isBetween_11 (by decide) ?_
      rw [← Option.some.inj hR]
      exact X_zret C hr rfl (Nat.le_refl _) (Nat.le_refl _) dTi_isBetween_15 ⟨rfl, rfl, rfl⟩
theorem Ti_isBetween_c {l : Launch} {G : xG} {B sz : Nat} {n : Nat} {x0 : Int32} {x1 : Int32} {x2 : Int32} {h : xH} {R : Int32 × xH} (hR : Ti_isBetween_f n x0 x1 x2 h = some R) : xCon l yTi_isBetween cTi_isBetween 3 (some .boolean) 0 0 0 0 G B [.int (x0), .int (x1), .int (x2)] h sz (kP (some (.int R.1)) R.2 sz) := xCon.of (by decide) (by exact Nat.le_of_ble_eq_true rfl) (fun F e C hr _ => X_sub (lv' := [(0, .int (x0)), (1, .int (x1)), (2, .int (x2))]) [0, 1, 2] rfl (Ti_isBetween_x C hr hR))
def Ti_limit_f (n : Nat) (o : Nat) (x1 : Int32) (x2 : Int32) (x3 : Int32) (x4 : Int32) (x5 : Int32) (h : xH) : Option (Int32 × xH) := obd (gq h (o) 4 0) (fun w1 => obd w1 (fun a6 => (if kc h (a6) 3 = true then obd (Ya_placeAt_f n (a6) (x1) (x2) h) (fun r7 => bnd (r7.1) (fun w8 => oel (w8) (some (((-1) : Int32), r7.2)) (fun a10 => (if x3 = 0 then some (((-1) : Int32), r7.2) else obd (Ti_isClock_f n (x3) r7.2) (fun r13 => (if r13.1 = 0 then some (((-1) : Int32), r13.2) else obd (Ti_isBetween_f n (x4) ((0 : Int32)) ((100 : Int32)) r13.2) (fun r15 => (if r15.1 = 0 then some (((-1) : Int32), r15.2) else obd (gi r15.2 (a10) 6 2) (fun u17 => (if u17 < (2 : Int32) then obd (gq r15.2 (a10) 6 0) (fun w23 => obd (gi r15.2 (a10) 6 2) (fun u28 => obd w23 (fun a33 => obd (pa r15.2 (a33) 0 (u28) (x3)) (fun h34 => obd (gq h34 (a10) 6 1) (fun w41 => obd (gi h34 (a10) 6 2) (fun u46 => obd (Zo_mark_f n (x4) (x5) h34) (fun r51 => obd w41 (fun a52 => obd (pa r51.2 (a52) 0 (u46) (r51.1)) (fun h53 => obd (gi h53 (a10) 6 2) (fun u60 => obd (pf h53 (a10) 6 2 (.int ((u60) + ((1 : Int32))))) (fun h65 => obd (gi h65 (a10) 6 2) (fun u71 => some (u71, h65))))))))))))) else some (((-2) : Int32), r15.2))))))))))) else none)))
set_option maxRecDepth 100000 in
set_option maxHeartbeats 8000000 in
theorem Ti_limit_x {F : xF} {G : xG} {B sz : Nat} {o : Nat} (C : xC F G B cTi_limit RTi 7 2 44 0 0) (hr : (xFM F).sig.returnType = (some .int)) {n : Nat} {x1 : Int32} {x2 : Int32} {x3 : Int32} {x4 : Int32} {x5 : Int32} {h : xH} {R : Int32 × xH} (hR : Ti_limit_f n o x1 x2 x3 x4 x5 h = some R) : X F G B (xZ F G B (kP (some (.int R.1)) R.2 sz) 0 0) 7 h sz 0 0 0 [(0, .ref (o)), (1, .int (x1)), (2, .int (x2)), (3, .int (x3)), (4, .int (x4)), (5, .int (x5))] [] := by
  unfold Ti_limit_f at hR
  refine X_aload_n C dTi_limit_0 rfl ?_
  have hq := o_bind hR
  clear hR
  obtain ⟨w1, hx5, hR⟩ := hq
  obtain ⟨fs2, he3, hv4⟩ := gq_e hx5
  refine X_get (k := 0) C oTi fwTi_10 he3 hv4 dTi_limit_1 ?_
  refine X_iload_n C dTi_limit_4 rfl ?_
  refine X_iload_n C dTi_limit_5 rfl ?_
  have hq := o_bind hR
  clear hR
  obtain ⟨a6, rfl, hR⟩ := hq
  have hq := o_if hR
  clear hR
  obtain ⟨k76, hR⟩ := hq
  obtain ⟨fs77, he78⟩ := kc_e k76
  have hq := o_bind hR
  clear hR
  obtain ⟨r7, hr7, hR⟩ := hq
  refine X_callVk (As := [.int (x1), .int (x2)]) (rest := []) C (Ya_placeAt_c hr7) wTi_63 ⟨by decide, by decide⟩ ⟨Nat.le_refl _, Nat.le_refl _⟩ he78 oYa.2.1 rfl rfl (Nat.le_of_ble_eq_true rfl) dTi_limit_6 ?_
  show X F G B _ 7 (r7.2) _ _ _ _ _ [va_rf (r7.1)]
  have hq := b_bnd hR
  clear hR
  obtain ⟨w8, e9, hR⟩ := hq
  rw [← e9]
  refine X_astoreq (lv' := [(6, va_rf (w8)), (0, .ref (o)), (1, .int (x1)), (2, .int (x2)), (3, .int (x3)), (4, .int (x4)), (5, .int (x5))]) C dTi_limit_9 (by decide) rfl ?_
  refine X_aloadq C dTi_limit_11 rfl ?_
  refine X_ifnullq (tgt := 38) C dTi_limit_13 (by decide) (fun e11 => ?_) (fun a10 e11 => ?_)
  · subst e11
    rw [oel_n] at hR
    refine X_iconst (v := (-1)) C dTi_limit_38 rfl ?_
    rw [← Option.some.inj hR]
    exact X_iret C hr (Nat.le_refl _) (Nat.le_refl _) dTi_limit_39 ⟨rfl, rfl, rfl⟩
  · subst e11
    rw [oel_s] at hR
    refine X_iload_n C dTi_limit_16 rfl ?_
    refine X_if_eq (tgt := 38) C dTi_limit_17 (by decide) (fun c12 => ?_) (fun c12 => ?_)
    · rw [if_pos c12] at hR
      refine X_iconst (v := (-1)) C dTi_limit_38 rfl ?_
      rw [← Option.some.inj hR]
      exact X_iret C hr (Nat.le_refl _) (Nat.le_refl _) dTi_limit_39 ⟨rfl, rfl, rfl⟩
    · rw [if_neg c12] at hR
      refine X_iload_n C dTi_limit_20 rfl ?_
      have hq := o_bind hR
      clear hR
      obtain ⟨r13, hr13, hR⟩ := hq
      refine X_callSk (As := [.int (x3)]) (rest := []) C (Ti_isClock_c hr13) wTi_67 ⟨by decide, by decide⟩ ⟨Nat.le_refl _, Nat.le_refl _⟩ rfl rfl (Nat.le_of_ble_eq_true rfl) dTi_limit_21 ?_
      show X F G B _ 7 (r13.2) _ _ _ _ _ [.int (r13.1)]
      refine X_if_eq (tgt := 38) C dTi_limit_24 (by decide) (fun c14 => ?_) (fun c14 => ?_)
      · rw [if_pos c14] at hR
        refine X_iconst (v := (-1)) C dTi_limit_38 rfl ?_
        rw [← Option.some.inj hR]
        exact X_iret C hr (Nat.le_refl _) (Nat.le_refl _) dTi_limit_39 ⟨rfl, rfl, rfl⟩
      · rw [if_neg c14] at hR
        refine X_iload C dTi_limit_27 rfl ?_
        refine X_iconst (v := 0) C dTi_limit_29 rfl ?_
        refine X_bipush (v := 100) C dTi_limit_30 (by decide) ?_
        have hq := o_bind hR
        clear hR
        obtain ⟨r15, hr15, hR⟩ := hq
        refine X_callSk (As := [.int (x4), .int ((0 : Int32)), .int ((100 : Int32))]) (rest := []) C (Ti_isBetween_c hr15) wTi_71 ⟨by decide, by decide⟩ ⟨Nat.le_refl _, Nat.le_refl _⟩ rfl rfl (Nat.le_of_ble_eq_true rfl) dTi_limit_32 ?_
        show X F G B _ 7 (r15.2) _ _ _ _ _ [.int (r15.1)]
        refine X_if_ne (tgt := 40) C dTi_limit_35 (by decide) (fun c16 => ?_) (fun c16 => ?_)
        · rw [if_neg c16] at hR
          refine X_aload C dTi_limit_40 rfl ?_
          have hq := o_bind hR
          clear hR
          obtain ⟨u17, hx21, hR⟩ := hq
          obtain ⟨fs18, he19, hv20⟩ := gi_e hx21
          refine X_get (k := 2) C oPl fwTi_75 he19 hv20 dTi_limit_42 ?_
          refine X_iconst (v := 2) C dTi_limit_45 rfl ?_
          refine X_icmp_lt (tgt := 52) C dTi_limit_46 (by decide) (fun c22 => ?_) (fun c22 => ?_)
          · rw [if_pos c22] at hR
            refine X_aload C dTi_limit_52 rfl ?_
            have hq := o_bind hR
            clear hR
            obtain ⟨w23, hx27, hR⟩ := hq
            obtain ⟨fs24, he25, hv26⟩ := gq_e hx27
            refine X_get (k := 0) C oPl fwTi_78 he25 hv26 dTi_limit_54 ?_
            refine X_aload C dTi_limit_57 rfl ?_
            have hq := o_bind hR
            clear hR
            obtain ⟨u28, hx32, hR⟩ := hq
            obtain ⟨fs29, he30, hv31⟩ := gi_e hx32
            refine X_get (k := 2) C oPl fwTi_75 he30 hv31 dTi_limit_59 ?_
            refine X_iload_n C dTi_limit_62 rfl ?_
            have hq := o_bind hR
            clear hR
            obtain ⟨a33, rfl, hR⟩ := hq
            have hq := o_bind hR
            clear hR
            obtain ⟨h34, hh35, hR⟩ := hq
            obtain ⟨n36, f37, he38, hi39, e40⟩ := pa_e hh35
            refine X_iast C rfl he38 hi39 dTi_limit_63 ?_
            rw [← e40]
            refine X_aload C dTi_limit_64 rfl ?_
            have hq := o_bind hR
            clear hR
            obtain ⟨w41, hx45, hR⟩ := hq
            obtain ⟨fs42, he43, hv44⟩ := gq_e hx45
            refine X_get (k := 1) C oPl fwTi_81 he43 hv44 dTi_limit_66 ?_
            refine X_aload C dTi_limit_69 rfl ?_
            have hq := o_bind hR
            clear hR
            obtain ⟨u46, hx50, hR⟩ := hq
            obtain ⟨fs47, he48, hv49⟩ := gi_e hx50
            refine X_get (k := 2) C oPl fwTi_75 he48 hv49 dTi_limit_71 ?_
            refine X_iload C dTi_limit_74 rfl ?_
            refine X_iload C dTi_limit_76 rfl ?_
            have hq := o_bind hR
            clear hR
            obtain ⟨r51, hr51, hR⟩ := hq
            refine X_callSk (As := [.int (x4), .int (x5)]) (rest := [.int (u46), va_rf (w41)]) C (Zo_mark_c hr51) wTi_84 ⟨by decide, by decide⟩ ⟨Nat.le_refl _, Nat.le_refl _⟩ rfl rfl (by simp [rf_cat, cat_i, cat_r, cat_l]) dTi_limit_78 ?_
            show X F G B _ 7 (r51.2) _ _ _ _ _ [.int (r51.1), .int (u46), va_rf (w41)]
            have hq := o_bind hR
            clear hR
            obtain ⟨a52, rfl, hR⟩ := hq
            have hq := o_bind hR
            clear hR
            obtain ⟨h53, hh54, hR⟩ := hq
            obtain ⟨n55, f56, he57, hi58, e59⟩ := pa_e hh54
            refine X_iast C rfl he57 hi58 dTi_limit_81 ?_
            rw [← e59]
            refine X_aload C dTi_limit_82 rfl ?_
            refine X_dup C dTi_limit_84 rfl ?_
            have hq := o_bind hR
            clear hR
            obtain ⟨u60, hx64, hR⟩ := hq
            obtain ⟨fs61, he62, hv63⟩ := gi_e hx64
            refine X_get (k := 2) C oPl fwTi_75 he62 hv63 dTi_limit_85 ?_
            refine X_iconst (v := 1) C dTi_limit_88 rfl ?_
            refine X_iadd C dTi_limit_89 ?_
            have hq := o_bind hR
            clear hR
            obtain ⟨h65, hh66, hR⟩ := hq
            obtain ⟨fs67, he68, hl69, e70⟩ := pf_e hh66
            refine X_put (k := 2) C oPl fwTi_75 rfl he68 rfl rfl hl69 dTi_limit_90 ?_
            rw [← e70]
            refine X_aload C dTi_limit_93 rfl ?_
            have hq := o_bind hR
            clear hR
            obtain ⟨u71, hx75, hR⟩ := hq
            obtain ⟨fs72, he73, hv74⟩ := gi_e hx75
            refine X_get (k := 2) C oPl fwTi_75 he73 hv74 dTi_limit_95 ?_
            rw [← Option.some.inj hR]
            exact X_iret C hr (Nat.le_refl _) (Nat.le_refl _) dTi_limit_98 ⟨rfl, rfl, rfl⟩
          · rw [if_neg c22] at hR
            refine X_bipush (v := (-2)) C dTi_limit_49 (by decide) ?_
            rw [← Option.some.inj hR]
            exact X_iret C hr (Nat.le_refl _) (Nat.le_refl _) dTi_limit_51 ⟨rfl, rfl, rfl⟩
        · rw [if_pos c16] at hR
          refine X_iconst (v := (-1)) C dTi_limit_38 rfl ?_
          rw [← Option.some.inj hR]
          exact X_iret C hr (Nat.le_refl _) (Nat.le_refl _) dTi_limit_39 ⟨rfl, rfl, rfl⟩
theorem Ti_limit_c {l : Launch} {G : xG} {B sz : Nat} {o : Nat} {n : Nat} {x1 : Int32} {x2 : Int32} {x3 : Int32} {x4 : Int32} {x5 : Int32} {h : xH} {R : Int32 × xH} (hR : Ti_limit_f n o x1 x2 x3 x4 x5 h = some R) : xCon l yTi_limit cTi_limit 7 (some .int) 2 44 0 0 G B [.ref (o), .int (x1), .int (x2), .int (x3), .int (x4), .int (x5)] h sz (kP (some (.int R.1)) R.2 sz) := xCon.of (by decide) (by exact Nat.le_of_ble_eq_true rfl) (fun F e C hr _ => X_sub (lv' := [(0, .ref (o)), (1, .int (x1)), (2, .int (x2)), (3, .int (x3)), (4, .int (x4)), (5, .int (x5))]) [0, 1, 2, 3, 4, 5] rfl (Ti_limit_x C hr hR))
