def Zo_elapse_t0 (f : Nat → Int32 → xH → Option (Int32 × xH)) (n : Nat) (o : Nat) (x1 : Int32) (h : xH) : Option (Int32 × xH) := f 2 ((1 : Int32)) h
def Zo_elapse_t2 (f : Nat → Int32 → xH → Option (Int32 × xH)) (n : Nat) (o : Nat) (x1 : Int32) (h : xH) : Option (Int32 × xH) := obd (gi h (o) 1 0) (fun u1 => (if u1 ≤ x1 then some (0, h) else obd (gq h (o) 1 1) (fun w7 => obd (gi h (o) 1 0) (fun u12 => obd w7 (fun a17 => obd (pa h (a17) 0 ((x1) * (u12)) ((1000000 : Int32))) (fun h18 => f 2 (x1 + 1) h18))))))
def Zo_elapse_f : Nat → Nat → Nat → Int32 → xH → Option (Int32 × xH)
  | 0 => fun _ _ _ _ => none
  | n + 1 => fun p o x1 h => if p = 0 then Zo_elapse_t0 (fun p x1 h => Zo_elapse_f n p o x1 h) n o x1 h else if p = 2 then Zo_elapse_t2 (fun p x1 h => Zo_elapse_f n p o x1 h) n o x1 h else none
theorem Zo_elapse_e0 (n : Nat) (o : Nat) (x1 : Int32) (h : xH) : Zo_elapse_f (n + 1) 0 o x1 h = Zo_elapse_t0 (fun p x1 h => Zo_elapse_f n p o x1 h) n o x1 h := by
  show (if 0 = 0 then Zo_elapse_t0 (fun p x1 h => Zo_elapse_f n p o x1 h) n o x1 h else if 0 = 2 then Zo_elapse_t2 (fun p x1 h => Zo_elapse_f n p o x1 h) n o x1 h else none) = _
  rw [if_pos rfl]
theorem Zo_elapse_e2 (n : Nat) (o : Nat) (x1 : Int32) (h : xH) : Zo_elapse_f (n + 1) 2 o x1 h = Zo_elapse_t2 (fun p x1 h => Zo_elapse_f n p o x1 h) n o x1 h := by
  show (if 2 = 0 then Zo_elapse_t0 (fun p x1 h => Zo_elapse_f n p o x1 h) n o x1 h else if 2 = 2 then Zo_elapse_t2 (fun p x1 h => Zo_elapse_f n p o x1 h) n o x1 h else none) = _
  rw [if_neg (by decide), if_pos rfl]
set_option maxRecDepth 100000 in
set_option maxHeartbeats 8000000 in
theorem Zo_elapse_x {F : xF} {G : xG} {B sz : Nat} {o : Nat} (C : xC F G B cZo_elapse RZo 2 0 0 0 0) (hr : (xFM F).sig.returnType = none) : ∀ (n : Nat) (x1 : Int32) (h : xH) (R : Int32 × xH), (Zo_elapse_f n 0 o x1 h = some R → X F G B (xZ F G B (kP none R.2 sz) 0 0) 2 h sz 0 0 0 [(0, .ref (o))] []) ∧ (Zo_elapse_f n 2 o x1 h = some R → X F G B (xZ F G B (kP none R.2 sz) 0 0) 2 h sz 0 0 2 [(0, .ref (o)), (1, .int (x1))] []) := by
  intro n
  induction n with
  | zero => exact fun _ _ _ => ⟨(fun hR => nomatch (show (none : Option _) = some _ from hR)), (fun hR => nomatch (show (none : Option _) = some _ from hR))⟩
  | succ n ih =>
    intro x1 h R
    refine ⟨fun hR => ?_, fun hR => ?_⟩
    · rw [Zo_elapse_e0] at hR
      unfold Zo_elapse_t0 at hR
      refine X_iconst (v := 1) C dZo_elapse_0 rfl ?_
      refine X_istore_n (lv' := [(1, .int ((1 : Int32))), (0, .ref (o))]) C dZo_elapse_1 (by decide) rfl ?_
      refine X_sub (lv' := [(0, .ref (o)), (1, .int ((1 : Int32)))]) [1, 0] rfl ?_
      exact (ih ((1 : Int32)) _ _).2 hR
    · rw [Zo_elapse_e2] at hR
      unfold Zo_elapse_t2 at hR
      refine X_iload_n C dZo_elapse_2 rfl ?_
      refine X_aload_n C dZo_elapse_3 rfl ?_
      have hq := o_bind hR
      clear hR
      obtain ⟨u1, hx5, hR⟩ := hq
      obtain ⟨fs2, he3, hv4⟩ := gi_e hx5
      refine X_get (k := 0) C oZo fwZo_9 he3 hv4 dZo_elapse_4 ?_
      refine X_icmp_ge (tgt := 29) C dZo_elapse_7 (by decide) (fun c6 => ?_) (fun c6 => ?_)
      · rw [if_pos c6] at hR
        rw [← Option.some.inj hR]
        exact X_vret C hr (Nat.le_refl _) (Nat.le_refl _) dZo_elapse_29 ⟨rfl, rfl, rfl⟩
      · rw [if_neg c6] at hR
        refine X_aload_n C dZo_elapse_10 rfl ?_
        have hq := o_bind hR
        clear hR
        obtain ⟨w7, hx11, hR⟩ := hq
        obtain ⟨fs8, he9, hv10⟩ := gq_e hx11
        refine X_get (k := 1) C oZo fwZo_15 he9 hv10 dZo_elapse_11 ?_
        refine X_iload_n C dZo_elapse_14 rfl ?_
        refine X_aload_n C dZo_elapse_15 rfl ?_
        have hq := o_bind hR
        clear hR
        obtain ⟨u12, hx16, hR⟩ := hq
        obtain ⟨fs13, he14, hv15⟩ := gi_e hx16
        refine X_get (k := 0) C oZo fwZo_9 he14 hv15 dZo_elapse_16 ?_
        refine X_imul C dZo_elapse_19 ?_
        refine X_ldc (v := 1000000) C kZo_25 dZo_elapse_20 ?_
        have hq := o_bind hR
        clear hR
        obtain ⟨a17, rfl, hR⟩ := hq
        have hq := o_bind hR
        clear hR
        obtain ⟨h18, hh19, hR⟩ := hq
        obtain ⟨n20, f21, he22, hi23, e24⟩ := pa_e hh19
        refine X_iast C rfl he22 hi23 dZo_elapse_22 ?_
        rw [← e24]
        refine X_iinc (v := x1 + 1) (lv' := [(1, .int (x1 + 1)), (0, .ref (o))]) C dZo_elapse_23 rfl rfl (by decide) rfl ?_
        refine X_goto (tgt := 2) C dZo_elapse_26 (by decide) ?_
        refine X_sub (lv' := [(0, .ref (o)), (1, .int (x1 + 1))]) [1, 0] rfl ?_
        exact (ih (x1 + 1) _ _).2 hR
theorem Zo_elapse_c {l : Launch} {G : xG} {B sz : Nat} {o : Nat} {n : Nat} {h : xH} {R : Int32 × xH} (hR : Zo_elapse_f n 0 o 0 h = some R) : xCon l yZo_elapse cZo_elapse 2 none 0 0 0 0 G B [.ref (o)] h sz (kP none R.2 sz) := xCon.of (by decide) (by exact Nat.le_of_ble_eq_true rfl) (fun F e C hr hnm => X_sub (lv' := [(0, .ref (o))]) [0] rfl ((Zo_elapse_x C hr n 0 h R).1 hR))
def Ya_stay_f (n : Nat) (o : Nat) (y1 : Option Nat) (h : xH) : Option (Int32 × xH) := obd y1 (fun a1 => (if kc h (a1) 1 = true then obd (Zo_elapse_f n 0 (a1) 0 h) (fun r2 => (if kc r2.2 (o) 3 = true then obd (Ya_confine_f n 0 (o) (some (a1)) 0 none 0 r2.2) (fun r3 => some (0, r3.2)) else none)) else none))
set_option maxRecDepth 100000 in
set_option maxHeartbeats 8000000 in
theorem Ya_stay_x {F : xF} {G : xG} {B sz : Nat} {o : Nat} (C : xC F G B cYa_stay RYa 2 3 72 0 0) (hr : (xFM F).sig.returnType = none) {n : Nat} {y1 : Option Nat} {h : xH} {R : Int32 × xH} (hR : Ya_stay_f n o y1 h = some R) : X F G B (xZ F G B (kP none R.2 sz) 0 0) 2 h sz 0 0 0 [(0, .ref (o)), (1, va_rf (y1))] [] := by
  unfold Ya_stay_f at hR
  refine X_aload_nq C dYa_stay_0 rfl ?_
  have hq := o_bind hR
  clear hR
  obtain ⟨a1, rfl, hR⟩ := hq
  have hq := o_if hR
  clear hR
  obtain ⟨k7, hR⟩ := hq
  obtain ⟨fs8, he9⟩ := kc_e k7
  have hq := o_bind hR
  clear hR
  obtain ⟨r2, hr2, hR⟩ := hq
  refine X_callVk (As := []) (rest := []) C (Zo_elapse_c hr2) wYa_232 ⟨by decide, by decide⟩ ⟨Nat.le_refl _, Nat.le_refl _⟩ he9 oZo.2.1 rfl rfl (Nat.le_of_ble_eq_true rfl) dYa_stay_1 ?_
  show X F G B _ 2 (r2.2) _ _ _ _ _ []
  refine X_aload_n C dYa_stay_4 rfl ?_
  refine X_aload_n C dYa_stay_5 rfl ?_
  have hq := o_if hR
  clear hR
  obtain ⟨k4, hR⟩ := hq
  obtain ⟨fs5, he6⟩ := kc_e k4
  have hq := o_bind hR
  clear hR
  obtain ⟨r3, hr3, hR⟩ := hq
  refine X_callVk (As := [.ref (a1)]) (rest := []) C (Ya_confine_c hr3) wYa_90 ⟨by decide, by decide⟩ ⟨Nat.le_refl _, Nat.le_refl _⟩ he6 oYa.2.1 rfl rfl (Nat.le_of_ble_eq_true rfl) dYa_stay_6 ?_
  show X F G B _ 2 (r3.2) _ _ _ _ _ []
  rw [← Option.some.inj hR]
  exact X_vret C hr (Nat.le_refl _) (Nat.le_refl _) dYa_stay_9 ⟨rfl, rfl, rfl⟩
theorem Ya_stay_c {l : Launch} {G : xG} {B sz : Nat} {o : Nat} {n : Nat} {y1 : Option Nat} {h : xH} {R : Int32 × xH} (hR : Ya_stay_f n o y1 h = some R) : xCon l yYa_stay cYa_stay 2 none 3 72 0 0 G B [.ref (o), va_rf (y1)] h sz (kP none R.2 sz) := xCon.of (by decide) (by simp [lg_sl, rf_cat, cat_i, cat_r, cat_l]) (fun F e C hr hnm => X_sub (lv' := [(0, .ref (o)), (1, va_rf (y1))]) [0, 1] (by simp [lv_args, lv_pick, rf_cat, cat_i, cat_r, cat_l]) (Ya_stay_x C hr hR))
def Ya_isLimited_t0 (f : Nat → Int32 → xH → Option (Int32 × xH)) (n : Nat) (o : Nat) (x1 : Int32) (h : xH) : Option (Int32 × xH) := f 2 ((0 : Int32)) h
def Ya_isLimited_t2 (f : Nat → Int32 → xH → Option (Int32 × xH)) (n : Nat) (o : Nat) (x1 : Int32) (h : xH) : Option (Int32 × xH) := obd (gi h (o) 3 1) (fun u1 => (if u1 ≤ x1 then some ((0 : Int32), h) else obd (gq h (o) 3 10) (fun w7 => obd w7 (fun a12 => obd (ai h (a12) 0 (x1)) (fun u13 => (if kc h (o) 3 = true then obd (Ya_placeAt_f n (o) (x1) (u13) h) (fun r20 => bnd (r20.1) (fun w21 => oel (w21) (f 2 (x1 + 1) r20.2) (fun a23 => obd (gi r20.2 (a23) 6 2) (fun u25 => (if u25 ≤ 0 then f 2 (x1 + 1) r20.2 else some ((1 : Int32), r20.2)))))) else none))))))
def Ya_isLimited_f : Nat → Nat → Nat → Int32 → xH → Option (Int32 × xH)
  | 0 => fun _ _ _ _ => none
  | n + 1 => fun p o x1 h => if p = 0 then Ya_isLimited_t0 (fun p x1 h => Ya_isLimited_f n p o x1 h) n o x1 h else if p = 2 then Ya_isLimited_t2 (fun p x1 h => Ya_isLimited_f n p o x1 h) n o x1 h else none
theorem Ya_isLimited_e0 (n : Nat) (o : Nat) (x1 : Int32) (h : xH) : Ya_isLimited_f (n + 1) 0 o x1 h = Ya_isLimited_t0 (fun p x1 h => Ya_isLimited_f n p o x1 h) n o x1 h := by
  show (if 0 = 0 then Ya_isLimited_t0 (fun p x1 h => Ya_isLimited_f n p o x1 h) n o x1 h else if 0 = 2 then Ya_isLimited_t2 (fun p x1 h => Ya_isLimited_f n p o x1 h) n o x1 h else none) = _
  rw [if_pos rfl]
theorem Ya_isLimited_e2 (n : Nat) (o : Nat) (x1 : Int32) (h : xH) : Ya_isLimited_f (n + 1) 2 o x1 h = Ya_isLimited_t2 (fun p x1 h => Ya_isLimited_f n p o x1 h) n o x1 h := by
  show (if 2 = 0 then Ya_isLimited_t0 (fun p x1 h => Ya_isLimited_f n p o x1 h) n o x1 h else if 2 = 2 then Ya_isLimited_t2 (fun p x1 h => Ya_isLimited_f n p o x1 h) n o x1 h else none) = _
  rw [if_neg (by decide), if_pos rfl]
set_option maxRecDepth 100000 in
set_option maxHeartbeats 8000000 in
theorem Ya_isLimited_x {F : xF} {G : xG} {B sz : Nat} {o : Nat} (C : xC F G B cYa_isLimited RYa 3 2 44 0 0) (hr : (xFM F).sig.returnType = (some .boolean)) : ∀ (n : Nat) (x1 : Int32) (h : xH) (R : Int32 × xH), (Ya_isLimited_f n 0 o x1 h = some R → X F G B (xZ F G B (kP (some (.int R.1)) R.2 sz) 0 0) 3 h sz 0 0 0 [(0, .ref (o))] []) ∧ (Ya_isLimited_f n 2 o x1 h = some R → X F G B (xZ F G B (kP (some (.int R.1)) R.2 sz) 0 0) 3 h sz 0 0 2 [(0, .ref (o)), (1, .int (x1))] []) := by
  intro n
  induction n with
  | zero => exact fun _ _ _ => ⟨(fun hR => nomatch (show (none : Option _) = some _ from hR)), (fun hR => nomatch (show (none : Option _) = some _ from hR))⟩
  | succ n ih =>
    intro x1 h R
    refine ⟨fun hR => ?_, fun hR => ?_⟩
    · rw [Ya_isLimited_e0] at hR
      unfold Ya_isLimited_t0 at hR
      refine X_iconst (v := 0) C dYa_isLimited_0 rfl ?_
      refine X_istore_n (lv' := [(1, .int ((0 : Int32))), (0, .ref (o))]) C dYa_isLimited_1 (by decide) rfl ?_
      refine X_sub (lv' := [(0, .ref (o)), (1, .int ((0 : Int32)))]) [1, 0] rfl ?_
      exact (ih ((0 : Int32)) _ _).2 hR
    · rw [Ya_isLimited_e2] at hR
      unfold Ya_isLimited_t2 at hR
      refine X_iload_n C dYa_isLimited_2 rfl ?_
      refine X_aload_n C dYa_isLimited_3 rfl ?_
      have hq := o_bind hR
      clear hR
      obtain ⟨u1, hx5, hR⟩ := hq
      obtain ⟨fs2, he3, hv4⟩ := gi_e hx5
      refine X_get (k := 1) C oYa fwYa_43 he3 hv4 dYa_isLimited_4 ?_
      refine X_icmp_ge (tgt := 41) C dYa_isLimited_7 (by decide) (fun c6 => ?_) (fun c6 => ?_)
      · rw [if_pos c6] at hR
        refine X_iconst (v := 0) C dYa_isLimited_41 rfl ?_
        rw [← Option.some.inj hR]
        exact X_zret C hr rfl (Nat.le_refl _) (Nat.le_refl _) dYa_isLimited_42 ⟨rfl, rfl, rfl⟩
      · rw [if_neg c6] at hR
        refine X_aload_n C dYa_isLimited_10 rfl ?_
        refine X_iload_n C dYa_isLimited_11 rfl ?_
        refine X_aload_n C dYa_isLimited_12 rfl ?_
        have hq := o_bind hR
        clear hR
        obtain ⟨w7, hx11, hR⟩ := hq
        obtain ⟨fs8, he9, hv10⟩ := gq_e hx11
        refine X_get (k := 10) C oYa fwYa_31 he9 hv10 dYa_isLimited_13 ?_
        refine X_iload_n C dYa_isLimited_16 rfl ?_
        have hq := o_bind hR
        clear hR
        obtain ⟨a12, rfl, hR⟩ := hq
        have hq := o_bind hR
        clear hR
        obtain ⟨u13, hx14, hR⟩ := hq
        obtain ⟨n15, f16, he17, hi18, e19⟩ := ai_e hx14
        refine X_iald C rfl he17 hi18 dYa_isLimited_17 ?_
        rw [← e19]
        have hq := o_if hR
        clear hR
        obtain ⟨k31, hR⟩ := hq
        obtain ⟨fs32, he33⟩ := kc_e k31
        have hq := o_bind hR
        clear hR
        obtain ⟨r20, hr20, hR⟩ := hq
        refine X_callVk (As := [.int (x1), .int (u13)]) (rest := []) C (Ya_placeAt_c hr20) wYa_68 ⟨by decide, by decide⟩ ⟨Nat.le_refl _, Nat.le_refl _⟩ he33 oYa.2.1 rfl rfl (Nat.le_of_ble_eq_true rfl) dYa_isLimited_18 ?_
        show X F G B _ 3 (r20.2) _ _ _ _ _ [va_rf (r20.1)]
        have hq := b_bnd hR
        clear hR
        obtain ⟨w21, e22, hR⟩ := hq
        rw [← e22]
        refine X_astore_nq (lv' := [(2, va_rf (w21)), (0, .ref (o)), (1, .int (x1))]) C dYa_isLimited_21 (by decide) rfl ?_
        refine X_aload_nq C dYa_isLimited_22 rfl ?_
        refine X_ifnullq (tgt := 35) C dYa_isLimited_23 (by decide) (fun e24 => ?_) (fun a23 e24 => ?_)
        · subst e24
          rw [oel_n] at hR
          refine X_iinc (v := x1 + 1) (lv' := [(1, .int (x1 + 1)), (2, .null), (0, .ref (o))]) C dYa_isLimited_35 rfl rfl (by decide) rfl ?_
          refine X_goto (tgt := 2) C dYa_isLimited_38 (by decide) ?_
          refine X_sub (lv' := [(0, .ref (o)), (1, .int (x1 + 1))]) [2, 0] rfl ?_
          exact (ih (x1 + 1) _ _).2 hR
        · subst e24
          rw [oel_s] at hR
          refine X_aload_n C dYa_isLimited_26 rfl ?_
          have hq := o_bind hR
          clear hR
          obtain ⟨u25, hx29, hR⟩ := hq
          obtain ⟨fs26, he27, hv28⟩ := gi_e hx29
          refine X_get (k := 2) C oPl fwYa_137 he27 hv28 dYa_isLimited_27 ?_
          refine X_if_le (tgt := 35) C dYa_isLimited_30 (by decide) (fun c30 => ?_) (fun c30 => ?_)
          · rw [if_pos c30] at hR
            refine X_iinc (v := x1 + 1) (lv' := [(1, .int (x1 + 1)), (2, .ref (a23)), (0, .ref (o))]) C dYa_isLimited_35 rfl rfl (by decide) rfl ?_
            refine X_goto (tgt := 2) C dYa_isLimited_38 (by decide) ?_
            refine X_sub (lv' := [(0, .ref (o)), (1, .int (x1 + 1))]) [2, 0] rfl ?_
            exact (ih (x1 + 1) _ _).2 hR
          · rw [if_neg c30] at hR
            refine X_iconst (v := 1) C dYa_isLimited_33 rfl ?_
            rw [← Option.some.inj hR]
            exact X_zret C hr rfl (Nat.le_refl _) (Nat.le_refl _) dYa_isLimited_34 ⟨rfl, rfl, rfl⟩
theorem Ya_isLimited_c {l : Launch} {G : xG} {B sz : Nat} {o : Nat} {n : Nat} {h : xH} {R : Int32 × xH} (hR : Ya_isLimited_f n 0 o 0 h = some R) : xCon l yYa_isLimited cYa_isLimited 3 (some .boolean) 2 44 0 0 G B [.ref (o)] h sz (kP (some (.int R.1)) R.2 sz) := xCon.of (by decide) (by exact Nat.le_of_ble_eq_true rfl) (fun F e C hr hnm => X_sub (lv' := [(0, .ref (o))]) [0] rfl ((Ya_isLimited_x C hr n 0 h R).1 hR))
def Ya_newState_f (n : Nat) (o : Nat) (y1 : Option Nat) (h : xH) (z : Nat) : Option (Option Nat × xH × Nat × Nat) := obd (gi h (o) 3 3) (fun u1 => obd (gq h (o) 3 2) (fun w6 => obd w6 (fun a11 => obd (aq h (a11) 7 ((if (199 : Int32) < u1 then (199 : Int32) else u1))) (fun w12 => oel (w12) (obd (gq h (o) 3 2) (fun w21 => oadd 1 12 (bnd (xup h (z) (.inr (2, [.int 0, .null, .null, .null, .null, .int 0, .int 0, .int 0, .int 0, .int 0, .int 0, .int 0]))) (fun h26 => obd (St_init_f n (z) ((if (199 : Int32) < u1 then (199 : Int32) else u1)) h26 (z + 1)) (fun r30 => oadd r30.2.2.1 r30.2.2.2 (obd w21 (fun a31 => obd (pq r30.2.1 (a31) 7 ((if (199 : Int32) < u1 then (199 : Int32) else u1)) (z) 2) (fun h32 => obd (gq h32 (o) 3 2) (fun w41 => obd w41 (fun a46 => obd (aq h32 (a46) 7 ((if (199 : Int32) < u1 then (199 : Int32) else u1))) (fun w47 => obd w47 (fun a54 => (if kc h32 (a54) 2 = true then obd (St_comeFrom_f n (a54) (y1) h32) (fun r55 => obd (gq r55.2 (o) 3 10) (fun w56 => obd (gq r55.2 (a54) 2 1) (fun w61 => obd w56 (fun a66 => obd w61 (fun a67 => obd (cpi r55.2 (a66) ((0 : Int32)) (a67) ((0 : Int32)) ((3 : Int32))) (fun h68 => (if kc h68 (o) 3 = true then obd (Ya_isLimited_f n 0 (o) 0 h68) (fun r82 => (if zb (r82.1) = true then obd (pf r82.2 (a54) 2 11 (.int (r82.1))) (fun h84 => obd (pf h84 (o) 3 3 (.int (((if (199 : Int32) < u1 then (199 : Int32) else u1)) + ((1 : Int32))))) (fun h90 => oel (y1) (some ((some (a54)), h90, 0, 0)) (fun a96 => obd (gi h90 (a96) 2 6) (fun u98 => obd (pf h90 (a96) 2 6 (.int ((u98) + ((1 : Int32))))) (fun h103 => some ((some (a54)), h103, 0, 0)))))) else none)) else none))))))) else none))))))))))))) (fun a19 => obd (gq h (o) 3 2) (fun w117 => obd w117 (fun a122 => obd (aq h (a122) 7 ((if (199 : Int32) < u1 then (199 : Int32) else u1))) (fun w123 => obd w123 (fun a130 => (if kc h (a130) 2 = true then obd (St_comeFrom_f n (a130) (y1) h) (fun r131 => obd (gq r131.2 (o) 3 10) (fun w132 => obd (gq r131.2 (a130) 2 1) (fun w137 => obd w132 (fun a142 => obd w137 (fun a143 => obd (cpi r131.2 (a142) ((0 : Int32)) (a143) ((0 : Int32)) ((3 : Int32))) (fun h144 => (if kc h144 (o) 3 = true then obd (Ya_isLimited_f n 0 (o) 0 h144) (fun r158 => (if zb (r158.1) = true then obd (pf r158.2 (a130) 2 11 (.int (r158.1))) (fun h160 => obd (pf h160 (o) 3 3 (.int (((if (199 : Int32) < u1 then (199 : Int32) else u1)) + ((1 : Int32))))) (fun h166 => oel (y1) (some ((some (a130)), h166, 0, 0)) (fun a172 => obd (gi h166 (a172) 2 6) (fun u174 => obd (pf h166 (a172) 2 6 (.int ((u174) + ((1 : Int32))))) (fun h179 => some ((some (a130)), h179, 0, 0)))))) else none)) else none))))))) else none))))))))))
set_option maxRecDepth 100000 in
set_option maxHeartbeats 8000000 in
theorem Ya_newState_x {F : xF} {G : xG} {B mc ms : Nat} {o : Nat} (C : xC F G B cYa_newState RYa 4 3 66 mc ms) (hr : (xFM F).sig.returnType = (some (.object "TimedYard$State"))) {n : Nat} {y1 : Option Nat} {h : xH} {z cs ss : Nat} {R : Option Nat × xH × Nat × Nat} {Zf : Nat} (hm : cs + R.2.2.1 ≤ mc) (hs : ss + R.2.2.2 ≤ ms) (hz : Zf = z + R.2.2.1) (hR : Ya_newState_f n o y1 h z = some R) : X F G B (xZ F G B (kP (some (va_rf R.1)) R.2.1 Zf) mc ms) 4 h z cs ss 0 [(0, .ref (o)), (1, va_rf (y1))] [] := by
  unfold Ya_newState_f at hR
  refine X_aload_n C dYa_newState_0 rfl ?_
  have hq := o_bind hR
  clear hR
  obtain ⟨u1, hx5, hR⟩ := hq
  obtain ⟨fs2, he3, hv4⟩ := gi_e hx5
  refine X_get (k := 3) C oYa fwYa_65 he3 hv4 dYa_newState_1 ?_
  refine X_sipush (v := 199) C dYa_newState_4 (by decide) ?_
  refine X_min C mwYa_253 ⟨by decide, Nat.le_of_ble_eq_true rfl⟩ ⟨by omega, by omega⟩ dYa_newState_7 ?_
  refine X_istore_n (lv' := [(2, .int ((if (199 : Int32) < u1 then (199 : Int32) else u1))), (0, .ref (o)), (1, va_rf (y1))]) C dYa_newState_10 (by decide) (by simp [rf_cat, cat_i, cat_r, cat_l, rf_n, rf_s] <;> decide) ?_
  refine X_aload_n C dYa_newState_11 rfl ?_
  have hq := o_bind hR
  clear hR
  obtain ⟨w6, hx10, hR⟩ := hq
  obtain ⟨fs7, he8, hv9⟩ := gq_e hx10
  refine X_get (k := 2) C oYa fwYa_19 he8 hv9 dYa_newState_12 ?_
  refine X_iload_n C dYa_newState_15 rfl ?_
  have hq := o_bind hR
  clear hR
  obtain ⟨a11, rfl, hR⟩ := hq
  have hq := o_bind hR
  clear hR
  obtain ⟨w12, hx13, hR⟩ := hq
  obtain ⟨n14, f15, he16, hi17, e18⟩ := aq_e hx13
  refine X_aald C rfl he16 hi17 dYa_newState_16 ?_
  rw [← e18]
  refine X_ifnonnullq (tgt := 34) C dYa_newState_17 (by decide) (fun a19 e20 => ?_) (fun e20 => ?_)
  · subst e20
    rw [oel_s] at hR
    refine X_aload_n C dYa_newState_34 rfl ?_
    have hq := o_bind hR
    clear hR
    obtain ⟨w117, hx121, hR⟩ := hq
    obtain ⟨fs118, he119, hv120⟩ := gq_e hx121
    refine X_get (k := 2) C oYa fwYa_19 he119 hv120 dYa_newState_35 ?_
    refine X_iload_n C dYa_newState_38 rfl ?_
    have hq := o_bind hR
    clear hR
    obtain ⟨a122, rfl, hR⟩ := hq
    have hq := o_bind hR
    clear hR
    obtain ⟨w123, hx124, hR⟩ := hq
    obtain ⟨n125, f126, he127, hi128, e129⟩ := aq_e hx124
    refine X_aald C rfl he127 hi128 dYa_newState_39 ?_
    rw [← e129]
    refine X_astore_nq (lv' := [(3, va_rf (w123)), (2, .int ((if (199 : Int32) < u1 then (199 : Int32) else u1))), (0, .ref (o)), (1, va_rf (y1))]) C dYa_newState_40 (by decide) (by simp [rf_cat, cat_i, cat_r, cat_l, rf_n, rf_s] <;> decide) ?_
    refine X_aload_nq C dYa_newState_41 rfl ?_
    refine X_aload_nq C dYa_newState_42 rfl ?_
    have hq := o_bind hR
    clear hR
    obtain ⟨a130, rfl, hR⟩ := hq
    have hq := o_if hR
    clear hR
    obtain ⟨k188, hR⟩ := hq
    obtain ⟨fs189, he190⟩ := kc_e k188
    have hq := o_bind hR
    clear hR
    obtain ⟨r131, hr131, hR⟩ := hq
    refine X_callVk (As := [va_rf (y1)]) (rest := []) C (St_comeFrom_c hr131) wYa_258 ⟨by decide, by decide⟩ ⟨by omega, by omega⟩ he190 oSt.2.1 rfl rfl (Nat.le_of_ble_eq_true rfl) dYa_newState_43 ?_
    show X F G B _ 4 (r131.2) _ _ _ _ _ []
    refine X_aload_n C dYa_newState_46 rfl ?_
    have hq := o_bind hR
    clear hR
    obtain ⟨w132, hx136, hR⟩ := hq
    obtain ⟨fs133, he134, hv135⟩ := gq_e hx136
    refine X_get (k := 10) C oYa fwYa_31 he134 hv135 dYa_newState_47 ?_
    refine X_iconst (v := 0) C dYa_newState_50 rfl ?_
    refine X_aload_n C dYa_newState_51 rfl ?_
    have hq := o_bind hR
    clear hR
    obtain ⟨w137, hx141, hR⟩ := hq
    obtain ⟨fs138, he139, hv140⟩ := gq_e hx141
    refine X_get (k := 1) C oSt fwYa_191 he139 hv140 dYa_newState_52 ?_
    refine X_iconst (v := 0) C dYa_newState_55 rfl ?_
    refine X_iconst (v := 3) C dYa_newState_56 rfl ?_
    have hq := o_bind hR
    clear hR
    obtain ⟨a142, rfl, hR⟩ := hq
    have hq := o_bind hR
    clear hR
    obtain ⟨a143, rfl, hR⟩ := hq
    have hq := o_bind hR
    clear hR
    obtain ⟨h144, hh145, hR⟩ := hq
    obtain ⟨n146, n147, n148, n149, n150, n151, n152, n153, n154, n155, n156, n157⟩ := cpi_e hh145
    refine X_copyi C cpYa_193 rfl n150 n151 n152 n153 n154 n155 n156 ⟨by decide, Nat.le_of_ble_eq_true rfl⟩ dYa_newState_57 ?_
    rw [← n157]
    refine X_aload_n C dYa_newState_60 rfl ?_
    refine X_aload_n C dYa_newState_61 rfl ?_
    have hq := o_if hR
    clear hR
    obtain ⟨k185, hR⟩ := hq
    obtain ⟨fs186, he187⟩ := kc_e k185
    have hq := o_bind hR
    clear hR
    obtain ⟨r158, hr158, hR⟩ := hq
    refine X_callVk (As := []) (rest := [.ref (a130)]) C (Ya_isLimited_c hr158) wYa_262 ⟨by decide, by decide⟩ ⟨by omega, by omega⟩ he187 oYa.2.1 rfl rfl (Nat.le_of_ble_eq_true rfl) dYa_newState_62 ?_
    show X F G B _ 4 (r158.2) _ _ _ _ _ [.int (r158.1), .ref (a130)]
    have hq := o_if hR
    clear hR
    obtain ⟨b159, hR⟩ := hq
    have hq := o_bind hR
    clear hR
    obtain ⟨h160, hh161, hR⟩ := hq
    obtain ⟨fs162, he163, hl164, e165⟩ := pf_e hh161
    refine X_put (k := 11) C oSt fwYa_265 rfl he163 (zb_n b159) (zb_f b159) hl164 dYa_newState_65 ?_
    rw [← e165]
    refine X_aload_n C dYa_newState_68 rfl ?_
    refine X_iload_n C dYa_newState_69 rfl ?_
    refine X_iconst (v := 1) C dYa_newState_70 rfl ?_
    refine X_iadd C dYa_newState_71 ?_
    have hq := o_bind hR
    clear hR
    obtain ⟨h166, hh167, hR⟩ := hq
    obtain ⟨fs168, he169, hl170, e171⟩ := pf_e hh167
    refine X_put (k := 3) C oYa fwYa_65 rfl he169 rfl rfl hl170 dYa_newState_72 ?_
    rw [← e171]
    refine X_aload_nq C dYa_newState_75 rfl ?_
    refine X_ifnullq (tgt := 89) C dYa_newState_76 (by decide) (fun e173 => ?_) (fun a172 e173 => ?_)
    · subst e173
      rw [oel_n] at hR
      refine X_aload_n C dYa_newState_89 rfl ?_
      have hR := Option.some.inj hR
      subst hR
      dsimp only at hm hs hz ⊢
      exact X_aret C hr (Or.inl ⟨_, rfl⟩) (Or.inr ⟨_, rfl⟩) (by omega) (by omega) dYa_newState_90 ⟨rfl, rfl, by omega⟩
    · subst e173
      rw [oel_s] at hR
      refine X_aload_n C dYa_newState_79 rfl ?_
      refine X_dup C dYa_newState_80 rfl ?_
      have hq := o_bind hR
      clear hR
      obtain ⟨u174, hx178, hR⟩ := hq
      obtain ⟨fs175, he176, hv177⟩ := gi_e hx178
      refine X_get (k := 6) C oSt fwYa_268 he176 hv177 dYa_newState_81 ?_
      refine X_iconst (v := 1) C dYa_newState_84 rfl ?_
      refine X_iadd C dYa_newState_85 ?_
      have hq := o_bind hR
      clear hR
      obtain ⟨h179, hh180, hR⟩ := hq
      obtain ⟨fs181, he182, hl183, e184⟩ := pf_e hh180
      refine X_put (k := 6) C oSt fwYa_268 rfl he182 rfl rfl hl183 dYa_newState_86 ?_
      rw [← e184]
      refine X_aload_n C dYa_newState_89 rfl ?_
      have hR := Option.some.inj hR
      subst hR
      dsimp only at hm hs hz ⊢
      exact X_aret C hr (Or.inl ⟨_, rfl⟩) (Or.inr ⟨_, rfl⟩) (by omega) (by omega) dYa_newState_90 ⟨rfl, rfl, by omega⟩
  · subst e20
    rw [oel_n] at hR
    refine X_aload_n C dYa_newState_20 rfl ?_
    have hq := o_bind hR
    clear hR
    obtain ⟨w21, hx25, hR⟩ := hq
    obtain ⟨fs22, he23, hv24⟩ := gq_e hx25
    refine X_get (k := 2) C oYa fwYa_19 he23 hv24 dYa_newState_21 ?_
    refine X_iload_n C dYa_newState_24 rfl ?_
    have hq := o_add hR
    clear hR
    obtain ⟨R29, e28, hR⟩ := hq
    subst e28
    dsimp only at hm hs hz ⊢
    refine X_new (fs := [.int 0, .null, .null, .null, .null, .int 0, .int 0, .int 0, .int 0, .int 0, .int 0, .int 0]) C oSt nwYa_17 (fun j hj => by rcases (show j = 0 ∨ j = 1 ∨ j = 2 ∨ j = 3 ∨ j = 4 ∨ j = 5 ∨ j = 6 ∨ j = 7 ∨ j = 8 ∨ j = 9 ∨ j = 10 ∨ j = 11 by omega) with rfl | rfl | rfl | rfl | rfl | rfl | rfl | rfl | rfl | rfl | rfl | rfl <;> rfl) (by omega) (by omega) dYa_newState_25 (fun _ _ => ?_)
    have hq := b_bnd hR
    clear hR
    obtain ⟨h26, e27, hR⟩ := hq
    rw [← e27]
    refine X_dup C dYa_newState_28 rfl ?_
    refine X_iload_n C dYa_newState_29 rfl ?_
    have hq := o_bind hR
    clear hR
    obtain ⟨r30, hr30, hR⟩ := hq
    have hq := o_add hR
    clear hR
    obtain ⟨R116, e115, hR⟩ := hq
    subst e115
    dsimp only at hm hs hz ⊢
    refine X_callIa (As := [.int ((if (199 : Int32) < u1 then (199 : Int32) else u1))]) (rest := [.ref (z), .int ((if (199 : Int32) < u1 then (199 : Int32) else u1)), va_rf (w21)]) C (St_init_c hr30) wYa_256 ⟨by decide, by decide⟩ ⟨by omega, by omega⟩ rfl rfl (by simp [rf_cat, cat_i, cat_r, cat_l]) dYa_newState_30 ?_
    show X F G B _ 4 (r30.2.1) _ _ _ _ _ [.ref (z), .int ((if (199 : Int32) < u1 then (199 : Int32) else u1)), va_rf (w21)]
    have hq := o_bind hR
    clear hR
    obtain ⟨a31, rfl, hR⟩ := hq
    have hq := o_bind hR
    clear hR
    obtain ⟨h32, hh33, hR⟩ := hq
    obtain ⟨n34, f35, vs36, he37, hv38, hi39, e40⟩ := pq_e hh33
    refine X_aast C rfl oSt.2.1 he37 hv38 hi39 dYa_newState_33 ?_
    rw [← e40]
    refine X_aload_n C dYa_newState_34 rfl ?_
    have hq := o_bind hR
    clear hR
    obtain ⟨w41, hx45, hR⟩ := hq
    obtain ⟨fs42, he43, hv44⟩ := gq_e hx45
    refine X_get (k := 2) C oYa fwYa_19 he43 hv44 dYa_newState_35 ?_
    refine X_iload_n C dYa_newState_38 rfl ?_
    have hq := o_bind hR
    clear hR
    obtain ⟨a46, rfl, hR⟩ := hq
    have hq := o_bind hR
    clear hR
    obtain ⟨w47, hx48, hR⟩ := hq
    obtain ⟨n49, f50, he51, hi52, e53⟩ := aq_e hx48
    refine X_aald C rfl he51 hi52 dYa_newState_39 ?_
    rw [← e53]
    refine X_astore_nq (lv' := [(3, va_rf (w47)), (2, .int ((if (199 : Int32) < u1 then (199 : Int32) else u1))), (0, .ref (o)), (1, va_rf (y1))]) C dYa_newState_40 (by decide) (by simp [rf_cat, cat_i, cat_r, cat_l, rf_n, rf_s] <;> decide) ?_
    refine X_aload_nq C dYa_newState_41 rfl ?_
    refine X_aload_nq C dYa_newState_42 rfl ?_
    have hq := o_bind hR
    clear hR
    obtain ⟨a54, rfl, hR⟩ := hq
    have hq := o_if hR
    clear hR
    obtain ⟨k112, hR⟩ := hq
    obtain ⟨fs113, he114⟩ := kc_e k112
    have hq := o_bind hR
    clear hR
    obtain ⟨r55, hr55, hR⟩ := hq
    refine X_callVk (As := [va_rf (y1)]) (rest := []) C (St_comeFrom_c hr55) wYa_258 ⟨by decide, by decide⟩ ⟨by omega, by omega⟩ he114 oSt.2.1 rfl rfl (Nat.le_of_ble_eq_true rfl) dYa_newState_43 ?_
    show X F G B _ 4 (r55.2) _ _ _ _ _ []
    refine X_aload_n C dYa_newState_46 rfl ?_
    have hq := o_bind hR
    clear hR
    obtain ⟨w56, hx60, hR⟩ := hq
    obtain ⟨fs57, he58, hv59⟩ := gq_e hx60
    refine X_get (k := 10) C oYa fwYa_31 he58 hv59 dYa_newState_47 ?_
    refine X_iconst (v := 0) C dYa_newState_50 rfl ?_
    refine X_aload_n C dYa_newState_51 rfl ?_
    have hq := o_bind hR
    clear hR
    obtain ⟨w61, hx65, hR⟩ := hq
    obtain ⟨fs62, he63, hv64⟩ := gq_e hx65
    refine X_get (k := 1) C oSt fwYa_191 he63 hv64 dYa_newState_52 ?_
    refine X_iconst (v := 0) C dYa_newState_55 rfl ?_
    refine X_iconst (v := 3) C dYa_newState_56 rfl ?_
    have hq := o_bind hR
    clear hR
    obtain ⟨a66, rfl, hR⟩ := hq
    have hq := o_bind hR
    clear hR
    obtain ⟨a67, rfl, hR⟩ := hq
    have hq := o_bind hR
    clear hR
    obtain ⟨h68, hh69, hR⟩ := hq
    obtain ⟨n70, n71, n72, n73, n74, n75, n76, n77, n78, n79, n80, n81⟩ := cpi_e hh69
    refine X_copyi C cpYa_193 rfl n74 n75 n76 n77 n78 n79 n80 ⟨by decide, Nat.le_of_ble_eq_true rfl⟩ dYa_newState_57 ?_
    rw [← n81]
    refine X_aload_n C dYa_newState_60 rfl ?_
    refine X_aload_n C dYa_newState_61 rfl ?_
    have hq := o_if hR
    clear hR
    obtain ⟨k109, hR⟩ := hq
    obtain ⟨fs110, he111⟩ := kc_e k109
    have hq := o_bind hR
    clear hR
    obtain ⟨r82, hr82, hR⟩ := hq
    refine X_callVk (As := []) (rest := [.ref (a54)]) C (Ya_isLimited_c hr82) wYa_262 ⟨by decide, by decide⟩ ⟨by omega, by omega⟩ he111 oYa.2.1 rfl rfl (Nat.le_of_ble_eq_true rfl) dYa_newState_62 ?_
    show X F G B _ 4 (r82.2) _ _ _ _ _ [.int (r82.1), .ref (a54)]
    have hq := o_if hR
    clear hR
    obtain ⟨b83, hR⟩ := hq
    have hq := o_bind hR
    clear hR
    obtain ⟨h84, hh85, hR⟩ := hq
    obtain ⟨fs86, he87, hl88, e89⟩ := pf_e hh85
    refine X_put (k := 11) C oSt fwYa_265 rfl he87 (zb_n b83) (zb_f b83) hl88 dYa_newState_65 ?_
    rw [← e89]
    refine X_aload_n C dYa_newState_68 rfl ?_
    refine X_iload_n C dYa_newState_69 rfl ?_
    refine X_iconst (v := 1) C dYa_newState_70 rfl ?_
    refine X_iadd C dYa_newState_71 ?_
    have hq := o_bind hR
    clear hR
    obtain ⟨h90, hh91, hR⟩ := hq
    obtain ⟨fs92, he93, hl94, e95⟩ := pf_e hh91
    refine X_put (k := 3) C oYa fwYa_65 rfl he93 rfl rfl hl94 dYa_newState_72 ?_
    rw [← e95]
    refine X_aload_nq C dYa_newState_75 rfl ?_
    refine X_ifnullq (tgt := 89) C dYa_newState_76 (by decide) (fun e97 => ?_) (fun a96 e97 => ?_)
    · subst e97
      rw [oel_n] at hR
      refine X_aload_n C dYa_newState_89 rfl ?_
      have hR := Option.some.inj hR
      subst hR
      dsimp only at hm hs hz ⊢
      exact X_aret C hr (Or.inl ⟨_, rfl⟩) (Or.inr ⟨_, rfl⟩) (by omega) (by omega) dYa_newState_90 ⟨rfl, rfl, by omega⟩
    · subst e97
      rw [oel_s] at hR
      refine X_aload_n C dYa_newState_79 rfl ?_
      refine X_dup C dYa_newState_80 rfl ?_
      have hq := o_bind hR
      clear hR
      obtain ⟨u98, hx102, hR⟩ := hq
      obtain ⟨fs99, he100, hv101⟩ := gi_e hx102
      refine X_get (k := 6) C oSt fwYa_268 he100 hv101 dYa_newState_81 ?_
      refine X_iconst (v := 1) C dYa_newState_84 rfl ?_
      refine X_iadd C dYa_newState_85 ?_
      have hq := o_bind hR
      clear hR
      obtain ⟨h103, hh104, hR⟩ := hq
      obtain ⟨fs105, he106, hl107, e108⟩ := pf_e hh104
      refine X_put (k := 6) C oSt fwYa_268 rfl he106 rfl rfl hl107 dYa_newState_86 ?_
      rw [← e108]
      refine X_aload_n C dYa_newState_89 rfl ?_
      have hR := Option.some.inj hR
      subst hR
      dsimp only at hm hs hz ⊢
      exact X_aret C hr (Or.inl ⟨_, rfl⟩) (Or.inr ⟨_, rfl⟩) (by omega) (by omega) dYa_newState_90 ⟨rfl, rfl, by omega⟩
theorem Ya_newState_c {l : Launch} {G : xG} {B sz : Nat} {o : Nat} {n : Nat} {y1 : Option Nat} {h : xH} {R : Option Nat × xH × Nat × Nat} (hR : Ya_newState_f n o y1 h sz = some R) : xCon l yYa_newState cYa_newState 4 (some (.object "TimedYard$State")) 3 66 R.2.2.1 R.2.2.2 G B [.ref (o), va_rf (y1)] h sz (kP (some (va_rf R.1)) R.2.1 (sz + R.2.2.1)) := xCon.of (by decide) (by simp [lg_sl, rf_cat, cat_i, cat_r, cat_l]) (fun F e C hr hnm => X_sub (lv' := [(0, .ref (o)), (1, va_rf (y1))]) [0, 1] (by simp [lv_args, lv_pick, rf_cat, cat_i, cat_r, cat_l]) (Ya_newState_x C hr (Nat.le_of_eq (Nat.zero_add _)) (Nat.le_of_eq (Nat.zero_add _)) rfl hR))
def Zo_mark_f (n : Nat) (x0 : Int32) (x1 : Int32) (h : xH) : Option (Int32 × xH) := (if x1 = 0 then some ((((2 : Int32)) * (x0)) + ((1 : Int32)), h) else some (((2 : Int32)) * (x0), h))
set_option maxRecDepth 100000 in
set_option maxHeartbeats 8000000 in
theorem Zo_mark_x {F : xF} {G : xG} {B sz : Nat} (C : xC F G B cZo_mark RZo 2 0 0 0 0) (hr : (xFM F).sig.returnType = (some .int)) {n : Nat} {x0 : Int32} {x1 : Int32} {h : xH} {R : Int32 × xH} (hR : Zo_mark_f n x0 x1 h = some R) : X F G B (xZ F G B (kP (some (.int R.1)) R.2 sz) 0 0) 2 h sz 0 0 0 [(0, .int (x0)), (1, .int (x1))] [] := by
  unfold Zo_mark_f at hR
  refine X_iload_n C dZo_mark_0 rfl ?_
  refine X_if_eq (tgt := 10) C dZo_mark_1 (by decide) (fun c1 => ?_) (fun c1 => ?_)
  · rw [if_pos c1] at hR
    refine X_iconst (v := 2) C dZo_mark_10 rfl ?_
    refine X_iload_n C dZo_mark_11 rfl ?_
    refine X_imul C dZo_mark_12 ?_
    refine X_iconst (v := 1) C dZo_mark_13 rfl ?_
    refine X_iadd C dZo_mark_14 ?_
    rw [← Option.some.inj hR]
    exact X_iret C hr (Nat.le_refl _) (Nat.le_refl _) dZo_mark_15 ⟨rfl, rfl, rfl⟩
  · rw [if_neg c1] at hR
    refine X_iconst (v := 2) C dZo_mark_4 rfl ?_
    refine X_iload_n C dZo_mark_5 rfl ?_
    refine X_imul C dZo_mark_6 ?_
    refine X_goto (tgt := 15) C dZo_mark_7 (by decide) ?_
    rw [← Option.some.inj hR]
    exact X_iret C hr (Nat.le_refl _) (Nat.le_refl _) dZo_mark_15 ⟨rfl, rfl, rfl⟩
theorem Zo_mark_c {l : Launch} {G : xG} {B sz : Nat} {n : Nat} {x0 : Int32} {x1 : Int32} {h : xH} {R : Int32 × xH} (hR : Zo_mark_f n x0 x1 h = some R) : xCon l yZo_mark cZo_mark 2 (some .int) 0 0 0 0 G B [.int (x0), .int (x1)] h sz (kP (some (.int R.1)) R.2 sz) := xCon.of (by decide) (by exact Nat.le_of_ble_eq_true rfl) (fun F e C hr hnm => X_sub (lv' := [(0, .int (x0)), (1, .int (x1))]) [0, 1] rfl (Zo_mark_x C hr hR))
def Zo_loosened_f (n : Nat) (x0 : Int32) (x1 : Int32) (x2 : Int32) (x3 : Int32) (h : xH) : Option (Int32 × xH) := (if x0 = 0 then (if -(x3) ≤ (x1) >>> (((1 : Int32)) &&& 31) then some (x1, h) else obd (Zo_mark_f n (-(x3)) ((1 : Int32)) h) (fun r3 => some (r3.1, r3.2))) else (if (x1) >>> (((1 : Int32)) &&& 31) ≤ x2 then (if -(x3) ≤ (x1) >>> (((1 : Int32)) &&& 31) then some (x1, h) else obd (Zo_mark_f n (-(x3)) ((1 : Int32)) h) (fun r6 => some (r6.1, r6.2))) else some ((1000000 : Int32), h)))
set_option maxRecDepth 100000 in
set_option maxHeartbeats 8000000 in
theorem Zo_loosened_x {F : xF} {G : xG} {B sz : Nat} (C : xC F G B cZo_loosened RZo 5 1 21 0 0) (hr : (xFM F).sig.returnType = (some .int)) {n : Nat} {x0 : Int32} {x1 : Int32} {x2 : Int32} {x3 : Int32} {h : xH} {R : Int32 × xH} (hR : Zo_loosened_f n x0 x1 x2 x3 h = some R) : X F G B (xZ F G B (kP (some (.int R.1)) R.2 sz) 0 0) 5 h sz 0 0 0 [(0, .int (x0)), (1, .int (x1)), (2, .int (x2)), (3, .int (x3))] [] := by
  unfold Zo_loosened_f at hR
  refine X_iload_n C dZo_loosened_0 rfl ?_
  refine X_iconst (v := 1) C dZo_loosened_1 rfl ?_
  refine X_ishr C dZo_loosened_2 ?_
  refine X_istore (lv' := [(4, .int ((x1) >>> (((1 : Int32)) &&& 31))), (0, .int (x0)), (1, .int (x1)), (2, .int (x2)), (3, .int (x3))]) C dZo_loosened_3 (by decide) rfl ?_
  refine X_iload_n C dZo_loosened_5 rfl ?_
  refine X_if_eq (tgt := 18) C dZo_loosened_6 (by decide) (fun c1 => ?_) (fun c1 => ?_)
  · rw [if_pos c1] at hR
    refine X_iload C dZo_loosened_18 rfl ?_
    refine X_iload_n C dZo_loosened_20 rfl ?_
    refine X_ineg C dZo_loosened_21 ?_
    refine X_icmp_ge (tgt := 34) C dZo_loosened_22 (by decide) (fun c2 => ?_) (fun c2 => ?_)
    · rw [if_pos c2] at hR
      refine X_iload_n C dZo_loosened_34 rfl ?_
      rw [← Option.some.inj hR]
      exact X_iret C hr (Nat.le_refl _) (Nat.le_refl _) dZo_loosened_35 ⟨rfl, rfl, rfl⟩
    · rw [if_neg c2] at hR
      refine X_iload_n C dZo_loosened_25 rfl ?_
      refine X_ineg C dZo_loosened_26 ?_
      refine X_iconst (v := 1) C dZo_loosened_27 rfl ?_
      have hq := o_bind hR
      clear hR
      obtain ⟨r3, hr3, hR⟩ := hq
      refine X_callSk (As := [.int (-(x3)), .int ((1 : Int32))]) (rest := []) C (Zo_mark_c hr3) wZo_60 ⟨by decide, by decide⟩ ⟨Nat.le_refl _, Nat.le_refl _⟩ rfl rfl (Nat.le_of_ble_eq_true rfl) dZo_loosened_28 ?_
      show X F G B _ 5 (r3.2) _ _ _ _ _ [.int (r3.1)]
      refine X_goto (tgt := 35) C dZo_loosened_31 (by decide) ?_
      rw [← Option.some.inj hR]
      exact X_iret C hr (Nat.le_refl _) (Nat.le_refl _) dZo_loosened_35 ⟨rfl, rfl, rfl⟩
  · rw [if_neg c1] at hR
    refine X_iload C dZo_loosened_9 rfl ?_
    refine X_iload_n C dZo_loosened_11 rfl ?_
    refine X_icmp_le (tgt := 18) C dZo_loosened_12 (by decide) (fun c4 => ?_) (fun c4 => ?_)
    · rw [if_pos c4] at hR
      refine X_iload C dZo_loosened_18 rfl ?_
      refine X_iload_n C dZo_loosened_20 rfl ?_
      refine X_ineg C dZo_loosened_21 ?_
      refine X_icmp_ge (tgt := 34) C dZo_loosened_22 (by decide) (fun c5 => ?_) (fun c5 => ?_)
      · rw [if_pos c5] at hR
        refine X_iload_n C dZo_loosened_34 rfl ?_
        rw [← Option.some.inj hR]
        exact X_iret C hr (Nat.le_refl _) (Nat.le_refl _) dZo_loosened_35 ⟨rfl, rfl, rfl⟩
      · rw [if_neg c5] at hR
        refine X_iload_n C dZo_loosened_25 rfl ?_
        refine X_ineg C dZo_loosened_26 ?_
        refine X_iconst (v := 1) C dZo_loosened_27 rfl ?_
        have hq := o_bind hR
        clear hR
        obtain ⟨r6, hr6, hR⟩ := hq
        refine X_callSk (As := [.int (-(x3)), .int ((1 : Int32))]) (rest := []) C (Zo_mark_c hr6) wZo_60 ⟨by decide, by decide⟩ ⟨Nat.le_refl _, Nat.le_refl _⟩ rfl rfl (Nat.le_of_ble_eq_true rfl) dZo_loosened_28 ?_
        show X F G B _ 5 (r6.2) _ _ _ _ _ [.int (r6.1)]
        refine X_goto (tgt := 35) C dZo_loosened_31 (by decide) ?_
        rw [← Option.some.inj hR]
        exact X_iret C hr (Nat.le_refl _) (Nat.le_refl _) dZo_loosened_35 ⟨rfl, rfl, rfl⟩
    · rw [if_neg c4] at hR
      refine X_ldc (v := 1000000) C kZo_25 dZo_loosened_15 ?_
      rw [← Option.some.inj hR]
      exact X_iret C hr (Nat.le_refl _) (Nat.le_refl _) dZo_loosened_17 ⟨rfl, rfl, rfl⟩
theorem Zo_loosened_c {l : Launch} {G : xG} {B sz : Nat} {n : Nat} {x0 : Int32} {x1 : Int32} {x2 : Int32} {x3 : Int32} {h : xH} {R : Int32 × xH} (hR : Zo_loosened_f n x0 x1 x2 x3 h = some R) : xCon l yZo_loosened cZo_loosened 5 (some .int) 1 21 0 0 G B [.int (x0), .int (x1), .int (x2), .int (x3)] h sz (kP (some (.int R.1)) R.2 sz) := xCon.of (by decide) (by exact Nat.le_of_ble_eq_true rfl) (fun F e C hr hnm => X_sub (lv' := [(0, .int (x0)), (1, .int (x1)), (2, .int (x2)), (3, .int (x3))]) [0, 1, 2, 3] rfl (Zo_loosened_x C hr hR))
def Zo_loosen_t0 (f : Nat → Option Nat → Int32 → Int32 → Int32 → xH → Option (Int32 × xH)) (n : Nat) (o : Nat) (y1 : Option Nat) (x2 : Int32) (x3 : Int32) (x4 : Int32) (h : xH) : Option (Int32 × xH) := obd (gi h (o) 1 2) (fun u1 => (if u1 = 0 then obd y1 (fun a7 => obd (al h (a7) 0) (fun u8 => obd (gi h (o) 1 0) (fun u13 => (if u8 = u13 then f 22 (some (a7)) ((0 : Int32)) ((0 : Int32)) 0 h else some ((0 : Int32), h))))) else some ((0 : Int32), h)))
def Zo_loosen_t22 (f : Nat → Option Nat → Int32 → Int32 → Int32 → xH → Option (Int32 × xH)) (n : Nat) (o : Nat) (y1 : Option Nat) (x2 : Int32) (x3 : Int32) (x4 : Int32) (h : xH) : Option (Int32 × xH) := obd (gi h (o) 1 0) (fun u19 => (if u19 ≤ x3 then (if zb (x2) = true then some (x2, h) else none) else f 33 (y1) (x2) (x3) ((0 : Int32)) h))
def Zo_loosen_t33 (f : Nat → Option Nat → Int32 → Int32 → Int32 → xH → Option (Int32 × xH)) (n : Nat) (o : Nat) (y1 : Option Nat) (x2 : Int32) (x3 : Int32) (x4 : Int32) (h : xH) : Option (Int32 × xH) := obd (gi h (o) 1 0) (fun u26 => (if u26 ≤ x4 then f 22 (y1) (x2) (x3 + 1) 0 h else (if kc h (o) 1 = true then obd (Zo_at_f n (o) (x3) (x4) h) (fun r32 => obd y1 (fun a33 => obd (ai r32.2 (a33) 0 (x3)) (fun u34 => obd (ai r32.2 (a33) 0 (x4)) (fun u41 => obd (Zo_loosened_f n (x3) (r32.1) (u34) (u41) r32.2) (fun r48 => (if x2 = 0 then (if kc r48.2 (o) 1 = true then obd (Zo_at_f n (o) (x3) (x4) r48.2) (fun r68 => (if r48.1 = r68.1 then obd (gq r68.2 (o) 1 1) (fun w70 => obd (gi r68.2 (o) 1 0) (fun u75 => obd w70 (fun a80 => obd (pa r68.2 (a80) 0 (((x3) * (u75)) + (x4)) (r48.1)) (fun h81 => f 33 (some (a33)) ((0 : Int32)) (x3) (x4 + 1) h81)))) else obd (gq r68.2 (o) 1 1) (fun w88 => obd (gi r68.2 (o) 1 0) (fun u93 => obd w88 (fun a98 => obd (pa r68.2 (a98) 0 (((x3) * (u93)) + (x4)) (r48.1)) (fun h99 => f 33 (some (a33)) ((1 : Int32)) (x3) (x4 + 1) h99)))))) else none) else obd (gq r48.2 (o) 1 1) (fun w50 => obd (gi r48.2 (o) 1 0) (fun u55 => obd w50 (fun a60 => obd (pa r48.2 (a60) 0 (((x3) * (u55)) + (x4)) (r48.1)) (fun h61 => f 33 (some (a33)) ((1 : Int32)) (x3) (x4 + 1) h61)))))))))) else none)))
def Zo_loosen_f : Nat → Nat → Nat → Option Nat → Int32 → Int32 → Int32 → xH → Option (Int32 × xH)
  | 0 => fun _ _ _ _ _ _ _ => none
  | n + 1 => fun p o y1 x2 x3 x4 h => if p = 0 then Zo_loosen_t0 (fun p y1 x2 x3 x4 h => Zo_loosen_f n p o y1 x2 x3 x4 h) n o y1 x2 x3 x4 h else if p = 22 then Zo_loosen_t22 (fun p y1 x2 x3 x4 h => Zo_loosen_f n p o y1 x2 x3 x4 h) n o y1 x2 x3 x4 h else if p = 33 then Zo_loosen_t33 (fun p y1 x2 x3 x4 h => Zo_loosen_f n p o y1 x2 x3 x4 h) n o y1 x2 x3 x4 h else none
theorem Zo_loosen_e0 (n : Nat) (o : Nat) (y1 : Option Nat) (x2 : Int32) (x3 : Int32) (x4 : Int32) (h : xH) : Zo_loosen_f (n + 1) 0 o y1 x2 x3 x4 h = Zo_loosen_t0 (fun p y1 x2 x3 x4 h => Zo_loosen_f n p o y1 x2 x3 x4 h) n o y1 x2 x3 x4 h := by
  show (if 0 = 0 then Zo_loosen_t0 (fun p y1 x2 x3 x4 h => Zo_loosen_f n p o y1 x2 x3 x4 h) n o y1 x2 x3 x4 h else if 0 = 22 then Zo_loosen_t22 (fun p y1 x2 x3 x4 h => Zo_loosen_f n p o y1 x2 x3 x4 h) n o y1 x2 x3 x4 h else if 0 = 33 then Zo_loosen_t33 (fun p y1 x2 x3 x4 h => Zo_loosen_f n p o y1 x2 x3 x4 h) n o y1 x2 x3 x4 h else none) = _
  rw [if_pos rfl]
theorem Zo_loosen_e22 (n : Nat) (o : Nat) (y1 : Option Nat) (x2 : Int32) (x3 : Int32) (x4 : Int32) (h : xH) : Zo_loosen_f (n + 1) 22 o y1 x2 x3 x4 h = Zo_loosen_t22 (fun p y1 x2 x3 x4 h => Zo_loosen_f n p o y1 x2 x3 x4 h) n o y1 x2 x3 x4 h := by
  show (if 22 = 0 then Zo_loosen_t0 (fun p y1 x2 x3 x4 h => Zo_loosen_f n p o y1 x2 x3 x4 h) n o y1 x2 x3 x4 h else if 22 = 22 then Zo_loosen_t22 (fun p y1 x2 x3 x4 h => Zo_loosen_f n p o y1 x2 x3 x4 h) n o y1 x2 x3 x4 h else if 22 = 33 then Zo_loosen_t33 (fun p y1 x2 x3 x4 h => Zo_loosen_f n p o y1 x2 x3 x4 h) n o y1 x2 x3 x4 h else none) = _
  rw [if_neg (by decide), if_pos rfl]
theorem Zo_loosen_e33 (n : Nat) (o : Nat) (y1 : Option Nat) (x2 : Int32) (x3 : Int32) (x4 : Int32) (h : xH) : Zo_loosen_f (n + 1) 33 o y1 x2 x3 x4 h = Zo_loosen_t33 (fun p y1 x2 x3 x4 h => Zo_loosen_f n p o y1 x2 x3 x4 h) n o y1 x2 x3 x4 h := by
  show (if 33 = 0 then Zo_loosen_t0 (fun p y1 x2 x3 x4 h => Zo_loosen_f n p o y1 x2 x3 x4 h) n o y1 x2 x3 x4 h else if 33 = 22 then Zo_loosen_t22 (fun p y1 x2 x3 x4 h => Zo_loosen_f n p o y1 x2 x3 x4 h) n o y1 x2 x3 x4 h else if 33 = 33 then Zo_loosen_t33 (fun p y1 x2 x3 x4 h => Zo_loosen_f n p o y1 x2 x3 x4 h) n o y1 x2 x3 x4 h else none) = _
  rw [if_neg (by decide), if_neg (by decide), if_pos rfl]
set_option maxRecDepth 100000 in
set_option maxHeartbeats 8000000 in
theorem Zo_loosen_x {F : xF} {G : xG} {B sz : Nat} {o : Nat} (C : xC F G B cZo_loosen RZo 6 2 45 0 0) (hr : (xFM F).sig.returnType = (some .boolean)) : ∀ (n : Nat) (y1 : Option Nat) (x2 : Int32) (x3 : Int32) (x4 : Int32) (h : xH) (R : Int32 × xH), (Zo_loosen_f n 0 o y1 x2 x3 x4 h = some R → X F G B (xZ F G B (kP (some (.int R.1)) R.2 sz) 0 0) 6 h sz 0 0 0 [(0, .ref (o)), (1, va_rf (y1))] []) ∧ (Zo_loosen_f n 22 o y1 x2 x3 x4 h = some R → X F G B (xZ F G B (kP (some (.int R.1)) R.2 sz) 0 0) 6 h sz 0 0 22 [(0, .ref (o)), (1, va_rf (y1)), (2, .int (x2)), (3, .int (x3))] []) ∧ (Zo_loosen_f n 33 o y1 x2 x3 x4 h = some R → X F G B (xZ F G B (kP (some (.int R.1)) R.2 sz) 0 0) 6 h sz 0 0 33 [(0, .ref (o)), (1, va_rf (y1)), (2, .int (x2)), (3, .int (x3)), (4, .int (x4))] []) := by
  intro n
  induction n with
  | zero => exact fun _ _ _ _ _ _ => ⟨(fun hR => nomatch (show (none : Option _) = some _ from hR)), (fun hR => nomatch (show (none : Option _) = some _ from hR)), (fun hR => nomatch (show (none : Option _) = some _ from hR))⟩
  | succ n ih =>
    intro y1 x2 x3 x4 h R
    refine ⟨fun hR => ?_, fun hR => ?_, fun hR => ?_⟩
    · rw [Zo_loosen_e0] at hR
      unfold Zo_loosen_t0 at hR
      refine X_aload_n C dZo_loosen_0 rfl ?_
      have hq := o_bind hR
      clear hR
      obtain ⟨u1, hx5, hR⟩ := hq
      obtain ⟨fs2, he3, hv4⟩ := gi_e hx5
      refine X_get (k := 2) C oZo fwZo_26 he3 hv4 dZo_loosen_1 ?_
      refine X_if_ne (tgt := 16) C dZo_loosen_4 (by decide) (fun c6 => ?_) (fun c6 => ?_)
      · rw [if_neg c6] at hR
        refine X_iconst (v := 0) C dZo_loosen_16 rfl ?_
        rw [← Option.some.inj hR]
        exact X_zret C hr rfl (Nat.le_refl _) (Nat.le_refl _) dZo_loosen_17 ⟨rfl, rfl, rfl⟩
      · rw [if_pos c6] at hR
        refine X_aload_nq C dZo_loosen_7 rfl ?_
        have hq := o_bind hR
        clear hR
        obtain ⟨a7, rfl, hR⟩ := hq
        have hq := o_bind hR
        clear hR
        obtain ⟨u8, hx9, hR⟩ := hq
        obtain ⟨v10, he11, e12⟩ := al_e hx9
        refine X_alen C rfl he11 e12 dZo_loosen_8 ?_
        refine X_aload_n C dZo_loosen_9 rfl ?_
        have hq := o_bind hR
        clear hR
        obtain ⟨u13, hx17, hR⟩ := hq
        obtain ⟨fs14, he15, hv16⟩ := gi_e hx17
        refine X_get (k := 0) C oZo fwZo_9 he15 hv16 dZo_loosen_10 ?_
        refine X_icmp_eq (tgt := 18) C dZo_loosen_13 (by decide) (fun c18 => ?_) (fun c18 => ?_)
        · rw [if_pos c18] at hR
          refine X_iconst (v := 0) C dZo_loosen_18 rfl ?_
          refine X_istore_n (lv' := [(2, .int ((0 : Int32))), (0, .ref (o)), (1, .ref (a7))]) C dZo_loosen_19 (by decide) rfl ?_
          refine X_iconst (v := 0) C dZo_loosen_20 rfl ?_
          refine X_istore_n (lv' := [(3, .int ((0 : Int32))), (2, .int ((0 : Int32))), (0, .ref (o)), (1, .ref (a7))]) C dZo_loosen_21 (by decide) rfl ?_
          refine X_sub (lv' := [(0, .ref (o)), (1, va_rf ((some (a7)))), (2, .int ((0 : Int32))), (3, .int ((0 : Int32)))]) [2, 3, 1, 0] rfl ?_
          exact (ih (some (a7)) ((0 : Int32)) ((0 : Int32)) 0 _ _).2.1 hR
        · rw [if_neg c18] at hR
          refine X_iconst (v := 0) C dZo_loosen_16 rfl ?_
          rw [← Option.some.inj hR]
          exact X_zret C hr rfl (Nat.le_refl _) (Nat.le_refl _) dZo_loosen_17 ⟨rfl, rfl, rfl⟩
    · rw [Zo_loosen_e22] at hR
      unfold Zo_loosen_t22 at hR
      refine X_iload_n C dZo_loosen_22 rfl ?_
      refine X_aload_n C dZo_loosen_23 rfl ?_
      have hq := o_bind hR
      clear hR
      obtain ⟨u19, hx23, hR⟩ := hq
      obtain ⟨fs20, he21, hv22⟩ := gi_e hx23
      refine X_get (k := 0) C oZo fwZo_9 he21 hv22 dZo_loosen_24 ?_
      refine X_icmp_ge (tgt := 112) C dZo_loosen_27 (by decide) (fun c24 => ?_) (fun c24 => ?_)
      · rw [if_pos c24] at hR
        refine X_iload_n C dZo_loosen_112 rfl ?_
        have hq := o_if hR
        clear hR
        obtain ⟨b25, hR⟩ := hq
        rw [← Option.some.inj hR]
        exact X_zret C hr (zb_n b25) (Nat.le_refl _) (Nat.le_refl _) dZo_loosen_113 ⟨rfl, rfl, rfl⟩
      · rw [if_neg c24] at hR
        refine X_iconst (v := 0) C dZo_loosen_30 rfl ?_
        refine X_istore (lv' := [(4, .int ((0 : Int32))), (0, .ref (o)), (1, va_rf (y1)), (2, .int (x2)), (3, .int (x3))]) C dZo_loosen_31 (by decide) (by simp [rf_cat, cat_i, cat_r, cat_l, rf_n, rf_s] <;> decide) ?_
        refine X_sub (lv' := [(0, .ref (o)), (1, va_rf ((y1))), (2, .int (x2)), (3, .int (x3)), (4, .int ((0 : Int32)))]) [1, 2, 3, 4, 0] rfl ?_
        exact (ih (y1) (x2) (x3) ((0 : Int32)) _ _).2.2 hR
    · rw [Zo_loosen_e33] at hR
      unfold Zo_loosen_t33 at hR
      refine X_iload C dZo_loosen_33 rfl ?_
      refine X_aload_n C dZo_loosen_35 rfl ?_
      have hq := o_bind hR
      clear hR
      obtain ⟨u26, hx30, hR⟩ := hq
      obtain ⟨fs27, he28, hv29⟩ := gi_e hx30
      refine X_get (k := 0) C oZo fwZo_9 he28 hv29 dZo_loosen_36 ?_
      refine X_icmp_ge (tgt := 106) C dZo_loosen_39 (by decide) (fun c31 => ?_) (fun c31 => ?_)
      · rw [if_pos c31] at hR
        refine X_iinc (v := x3 + 1) (lv' := [(3, .int (x3 + 1)), (0, .ref (o)), (1, va_rf (y1)), (2, .int (x2)), (4, .int (x4))]) C dZo_loosen_106 rfl rfl (by decide) (by simp [rf_cat, cat_i, cat_r, cat_l, rf_n, rf_s] <;> decide) ?_
        refine X_goto (tgt := 22) C dZo_loosen_109 (by decide) ?_
        refine X_sub (lv' := [(0, .ref (o)), (1, va_rf ((y1))), (2, .int (x2)), (3, .int (x3 + 1))]) [1, 2, 3, 0] rfl ?_
        exact (ih (y1) (x2) (x3 + 1) 0 _ _).2.1 hR
      · rw [if_neg c31] at hR
        refine X_iload_n C dZo_loosen_42 rfl ?_
        refine X_aload_n C dZo_loosen_43 rfl ?_
        refine X_iload_n C dZo_loosen_44 rfl ?_
        refine X_iload C dZo_loosen_45 rfl ?_
        have hq := o_if hR
        clear hR
        obtain ⟨k109, hR⟩ := hq
        obtain ⟨fs110, he111⟩ := kc_e k109
        have hq := o_bind hR
        clear hR
        obtain ⟨r32, hr32, hR⟩ := hq
        refine X_callVk (As := [.int (x3), .int (x4)]) (rest := [.int (x3)]) C (Zo_at_c hr32) wZo_36 ⟨by decide, by decide⟩ ⟨Nat.le_refl _, Nat.le_refl _⟩ he111 oZo.2.1 rfl rfl (Nat.le_of_ble_eq_true rfl) dZo_loosen_47 ?_
        show X F G B _ 6 (r32.2) _ _ _ _ _ [.int (r32.1), .int (x3)]
        refine X_aload_nq C dZo_loosen_50 rfl ?_
        refine X_iload_n C dZo_loosen_51 rfl ?_
        have hq := o_bind hR
        clear hR
        obtain ⟨a33, rfl, hR⟩ := hq
        have hq := o_bind hR
        clear hR
        obtain ⟨u34, hx35, hR⟩ := hq
        obtain ⟨n36, f37, he38, hi39, e40⟩ := ai_e hx35
        refine X_iald C rfl he38 hi39 dZo_loosen_52 ?_
        rw [← e40]
        refine X_aload_n C dZo_loosen_53 rfl ?_
        refine X_iload C dZo_loosen_54 rfl ?_
        have hq := o_bind hR
        clear hR
        obtain ⟨u41, hx42, hR⟩ := hq
        obtain ⟨n43, f44, he45, hi46, e47⟩ := ai_e hx42
        refine X_iald C rfl he45 hi46 dZo_loosen_56 ?_
        rw [← e47]
        have hq := o_bind hR
        clear hR
        obtain ⟨r48, hr48, hR⟩ := hq
        refine X_callSk (As := [.int (x3), .int (r32.1), .int (u34), .int (u41)]) (rest := []) C (Zo_loosened_c hr48) wZo_56 ⟨by decide, by decide⟩ ⟨Nat.le_refl _, Nat.le_refl _⟩ rfl rfl (Nat.le_of_ble_eq_true rfl) dZo_loosen_57 ?_
        show X F G B _ 6 (r48.2) _ _ _ _ _ [.int (r48.1)]
        refine X_istore (lv' := [(5, .int (r48.1)), (0, .ref (o)), (1, .ref (a33)), (2, .int (x2)), (3, .int (x3)), (4, .int (x4))]) C dZo_loosen_60 (by decide) rfl ?_
        refine X_iload_n C dZo_loosen_62 rfl ?_
        refine X_if_ne (tgt := 78) C dZo_loosen_63 (by decide) (fun c49 => ?_) (fun c49 => ?_)
        · rw [if_neg c49] at hR
          refine X_iconst (v := 1) C dZo_loosen_78 rfl ?_
          refine X_goto (tgt := 83) C dZo_loosen_79 (by decide) ?_
          refine X_istore_n (lv' := [(2, .int ((1 : Int32))), (5, .int (r48.1)), (0, .ref (o)), (1, .ref (a33)), (3, .int (x3)), (4, .int (x4))]) C dZo_loosen_83 (by decide) rfl ?_
          refine X_aload_n C dZo_loosen_84 rfl ?_
          have hq := o_bind hR
          clear hR
          obtain ⟨w50, hx54, hR⟩ := hq
          obtain ⟨fs51, he52, hv53⟩ := gq_e hx54
          refine X_get (k := 1) C oZo fwZo_15 he52 hv53 dZo_loosen_85 ?_
          refine X_iload_n C dZo_loosen_88 rfl ?_
          refine X_aload_n C dZo_loosen_89 rfl ?_
          have hq := o_bind hR
          clear hR
          obtain ⟨u55, hx59, hR⟩ := hq
          obtain ⟨fs56, he57, hv58⟩ := gi_e hx59
          refine X_get (k := 0) C oZo fwZo_9 he57 hv58 dZo_loosen_90 ?_
          refine X_imul C dZo_loosen_93 ?_
          refine X_iload C dZo_loosen_94 rfl ?_
          refine X_iadd C dZo_loosen_96 ?_
          refine X_iload C dZo_loosen_97 rfl ?_
          have hq := o_bind hR
          clear hR
          obtain ⟨a60, rfl, hR⟩ := hq
          have hq := o_bind hR
          clear hR
          obtain ⟨h61, hh62, hR⟩ := hq
          obtain ⟨n63, f64, he65, hi66, e67⟩ := pa_e hh62
          refine X_iast C rfl he65 hi66 dZo_loosen_99 ?_
          rw [← e67]
          refine X_iinc (v := x4 + 1) (lv' := [(4, .int (x4 + 1)), (2, .int ((1 : Int32))), (5, .int (r48.1)), (0, .ref (o)), (1, .ref (a33)), (3, .int (x3))]) C dZo_loosen_100 rfl rfl (by decide) rfl ?_
          refine X_goto (tgt := 33) C dZo_loosen_103 (by decide) ?_
          refine X_sub (lv' := [(0, .ref (o)), (1, va_rf ((some (a33)))), (2, .int ((1 : Int32))), (3, .int (x3)), (4, .int (x4 + 1))]) [3, 4, 1, 5, 0] rfl ?_
          exact (ih (some (a33)) ((1 : Int32)) (x3) (x4 + 1) _ _).2.2 hR
        · rw [if_pos c49] at hR
          refine X_iload C dZo_loosen_66 rfl ?_
          refine X_aload_n C dZo_loosen_68 rfl ?_
          refine X_iload_n C dZo_loosen_69 rfl ?_
          refine X_iload C dZo_loosen_70 rfl ?_
          have hq := o_if hR
          clear hR
          obtain ⟨k106, hR⟩ := hq
          obtain ⟨fs107, he108⟩ := kc_e k106
          have hq := o_bind hR
          clear hR
          obtain ⟨r68, hr68, hR⟩ := hq
          refine X_callVk (As := [.int (x3), .int (x4)]) (rest := [.int (r48.1)]) C (Zo_at_c hr68) wZo_36 ⟨by decide, by decide⟩ ⟨Nat.le_refl _, Nat.le_refl _⟩ he108 oZo.2.1 rfl rfl (Nat.le_of_ble_eq_true rfl) dZo_loosen_72 ?_
          show X F G B _ 6 (r68.2) _ _ _ _ _ [.int (r68.1), .int (r48.1)]
          refine X_icmp_eq (tgt := 82) C dZo_loosen_75 (by decide) (fun c69 => ?_) (fun c69 => ?_)
          · rw [if_pos c69] at hR
            refine X_iconst (v := 0) C dZo_loosen_82 rfl ?_
            refine X_istore_n (lv' := [(2, .int ((0 : Int32))), (5, .int (r48.1)), (0, .ref (o)), (1, .ref (a33)), (3, .int (x3)), (4, .int (x4))]) C dZo_loosen_83 (by decide) rfl ?_
            refine X_aload_n C dZo_loosen_84 rfl ?_
            have hq := o_bind hR
            clear hR
            obtain ⟨w70, hx74, hR⟩ := hq
            obtain ⟨fs71, he72, hv73⟩ := gq_e hx74
            refine X_get (k := 1) C oZo fwZo_15 he72 hv73 dZo_loosen_85 ?_
            refine X_iload_n C dZo_loosen_88 rfl ?_
            refine X_aload_n C dZo_loosen_89 rfl ?_
            have hq := o_bind hR
            clear hR
            obtain ⟨u75, hx79, hR⟩ := hq
            obtain ⟨fs76, he77, hv78⟩ := gi_e hx79
            refine X_get (k := 0) C oZo fwZo_9 he77 hv78 dZo_loosen_90 ?_
            refine X_imul C dZo_loosen_93 ?_
            refine X_iload C dZo_loosen_94 rfl ?_
            refine X_iadd C dZo_loosen_96 ?_
            refine X_iload C dZo_loosen_97 rfl ?_
            have hq := o_bind hR
            clear hR
            obtain ⟨a80, rfl, hR⟩ := hq
            have hq := o_bind hR
            clear hR
            obtain ⟨h81, hh82, hR⟩ := hq
            obtain ⟨n83, f84, he85, hi86, e87⟩ := pa_e hh82
            refine X_iast C rfl he85 hi86 dZo_loosen_99 ?_
            rw [← e87]
            refine X_iinc (v := x4 + 1) (lv' := [(4, .int (x4 + 1)), (2, .int ((0 : Int32))), (5, .int (r48.1)), (0, .ref (o)), (1, .ref (a33)), (3, .int (x3))]) C dZo_loosen_100 rfl rfl (by decide) rfl ?_
            refine X_goto (tgt := 33) C dZo_loosen_103 (by decide) ?_
            refine X_sub (lv' := [(0, .ref (o)), (1, va_rf ((some (a33)))), (2, .int ((0 : Int32))), (3, .int (x3)), (4, .int (x4 + 1))]) [3, 4, 1, 5, 0] rfl ?_
            exact (ih (some (a33)) ((0 : Int32)) (x3) (x4 + 1) _ _).2.2 hR
          · rw [if_neg c69] at hR
            refine X_iconst (v := 1) C dZo_loosen_78 rfl ?_
            refine X_goto (tgt := 83) C dZo_loosen_79 (by decide) ?_
            refine X_istore_n (lv' := [(2, .int ((1 : Int32))), (5, .int (r48.1)), (0, .ref (o)), (1, .ref (a33)), (3, .int (x3)), (4, .int (x4))]) C dZo_loosen_83 (by decide) rfl ?_
            refine X_aload_n C dZo_loosen_84 rfl ?_
            have hq := o_bind hR
            clear hR
            obtain ⟨w88, hx92, hR⟩ := hq
            obtain ⟨fs89, he90, hv91⟩ := gq_e hx92
            refine X_get (k := 1) C oZo fwZo_15 he90 hv91 dZo_loosen_85 ?_
            refine X_iload_n C dZo_loosen_88 rfl ?_
            refine X_aload_n C dZo_loosen_89 rfl ?_
            have hq := o_bind hR
            clear hR
            obtain ⟨u93, hx97, hR⟩ := hq
            obtain ⟨fs94, he95, hv96⟩ := gi_e hx97
            refine X_get (k := 0) C oZo fwZo_9 he95 hv96 dZo_loosen_90 ?_
            refine X_imul C dZo_loosen_93 ?_
            refine X_iload C dZo_loosen_94 rfl ?_
            refine X_iadd C dZo_loosen_96 ?_
            refine X_iload C dZo_loosen_97 rfl ?_
            have hq := o_bind hR
            clear hR
            obtain ⟨a98, rfl, hR⟩ := hq
            have hq := o_bind hR
            clear hR
            obtain ⟨h99, hh100, hR⟩ := hq
            obtain ⟨n101, f102, he103, hi104, e105⟩ := pa_e hh100
            refine X_iast C rfl he103 hi104 dZo_loosen_99 ?_
            rw [← e105]
            refine X_iinc (v := x4 + 1) (lv' := [(4, .int (x4 + 1)), (2, .int ((1 : Int32))), (5, .int (r48.1)), (0, .ref (o)), (1, .ref (a33)), (3, .int (x3))]) C dZo_loosen_100 rfl rfl (by decide) rfl ?_
            refine X_goto (tgt := 33) C dZo_loosen_103 (by decide) ?_
            refine X_sub (lv' := [(0, .ref (o)), (1, va_rf ((some (a33)))), (2, .int ((1 : Int32))), (3, .int (x3)), (4, .int (x4 + 1))]) [3, 4, 1, 5, 0] rfl ?_
            exact (ih (some (a33)) ((1 : Int32)) (x3) (x4 + 1) _ _).2.2 hR
theorem Zo_loosen_c {l : Launch} {G : xG} {B sz : Nat} {o : Nat} {n : Nat} {y1 : Option Nat} {h : xH} {R : Int32 × xH} (hR : Zo_loosen_f n 0 o y1 0 0 0 h = some R) : xCon l yZo_loosen cZo_loosen 6 (some .boolean) 2 45 0 0 G B [.ref (o), va_rf (y1)] h sz (kP (some (.int R.1)) R.2 sz) := xCon.of (by decide) (by simp [lg_sl, rf_cat, cat_i, cat_r, cat_l]) (fun F e C hr hnm => X_sub (lv' := [(0, .ref (o)), (1, va_rf (y1))]) [0, 1] (by simp [lv_args, lv_pick, rf_cat, cat_i, cat_r, cat_l]) ((Zo_loosen_x C hr n y1 0 0 0 h R).1 hR))
def Zo_narrow_f (n : Nat) (o : Nat) (x1 : Int32) (x2 : Int32) (x3 : Int32) (h : xH) : Option (Int32 × xH) := obd (gq h (o) 1 1) (fun w1 => obd (gi h (o) 1 0) (fun u6 => (if kc h (o) 1 = true then obd (Zo_at_f n (o) (x1) (x2) h) (fun r11 => obd w1 (fun a12 => obd (pa r11.2 (a12) 0 (((x1) * (u6)) + (x2)) ((if x3 < r11.1 then x3 else r11.1))) (fun h13 => some (0, h13)))) else none)))
set_option maxRecDepth 100000 in
set_option maxHeartbeats 8000000 in
theorem Zo_narrow_x {F : xF} {G : xG} {B sz : Nat} {o : Nat} (C : xC F G B cZo_narrow RZo 4 1 22 0 0) (hr : (xFM F).sig.returnType = none) {n : Nat} {x1 : Int32} {x2 : Int32} {x3 : Int32} {h : xH} {R : Int32 × xH} (hR : Zo_narrow_f n o x1 x2 x3 h = some R) : X F G B (xZ F G B (kP none R.2 sz) 0 0) 4 h sz 0 0 0 [(0, .ref (o)), (1, .int (x1)), (2, .int (x2)), (3, .int (x3))] [] := by
  unfold Zo_narrow_f at hR
  refine X_aload_n C dZo_narrow_0 rfl ?_
  have hq := o_bind hR
  clear hR
  obtain ⟨w1, hx5, hR⟩ := hq
  obtain ⟨fs2, he3, hv4⟩ := gq_e hx5
  refine X_get (k := 1) C oZo fwZo_15 he3 hv4 dZo_narrow_1 ?_
  refine X_iload_n C dZo_narrow_4 rfl ?_
  refine X_aload_n C dZo_narrow_5 rfl ?_
  have hq := o_bind hR
  clear hR
  obtain ⟨u6, hx10, hR⟩ := hq
  obtain ⟨fs7, he8, hv9⟩ := gi_e hx10
  refine X_get (k := 0) C oZo fwZo_9 he8 hv9 dZo_narrow_6 ?_
  refine X_imul C dZo_narrow_9 ?_
  refine X_iload_n C dZo_narrow_10 rfl ?_
  refine X_iadd C dZo_narrow_11 ?_
  refine X_aload_n C dZo_narrow_12 rfl ?_
  refine X_iload_n C dZo_narrow_13 rfl ?_
  refine X_iload_n C dZo_narrow_14 rfl ?_
  have hq := o_if hR
  clear hR
  obtain ⟨k20, hR⟩ := hq
  obtain ⟨fs21, he22⟩ := kc_e k20
  have hq := o_bind hR
  clear hR
  obtain ⟨r11, hr11, hR⟩ := hq
  refine X_callVk (As := [.int (x1), .int (x2)]) (rest := [.int (((x1) * (u6)) + (x2)), va_rf (w1)]) C (Zo_at_c hr11) wZo_36 ⟨by decide, by decide⟩ ⟨Nat.le_refl _, Nat.le_refl _⟩ he22 oZo.2.1 rfl rfl (by simp [rf_cat, cat_i, cat_r, cat_l]) dZo_narrow_15 ?_
  show X F G B _ 4 (r11.2) _ _ _ _ _ [.int (r11.1), .int (((x1) * (u6)) + (x2)), va_rf (w1)]
  refine X_iload_n C dZo_narrow_18 rfl ?_
  refine X_min C mwZo_40 ⟨by decide, by simp [rf_cat, cat_i, cat_r, cat_l]⟩ ⟨Nat.le_refl _, Nat.le_refl _⟩ dZo_narrow_19 ?_
  have hq := o_bind hR
  clear hR
  obtain ⟨a12, rfl, hR⟩ := hq
  have hq := o_bind hR
  clear hR
  obtain ⟨h13, hh14, hR⟩ := hq
  obtain ⟨n15, f16, he17, hi18, e19⟩ := pa_e hh14
  refine X_iast C rfl he17 hi18 dZo_narrow_22 ?_
  rw [← e19]
  rw [← Option.some.inj hR]
  exact X_vret C hr (Nat.le_refl _) (Nat.le_refl _) dZo_narrow_23 ⟨rfl, rfl, rfl⟩
theorem Zo_narrow_c {l : Launch} {G : xG} {B sz : Nat} {o : Nat} {n : Nat} {x1 : Int32} {x2 : Int32} {x3 : Int32} {h : xH} {R : Int32 × xH} (hR : Zo_narrow_f n o x1 x2 x3 h = some R) : xCon l yZo_narrow cZo_narrow 4 none 1 22 0 0 G B [.ref (o), .int (x1), .int (x2), .int (x3)] h sz (kP none R.2 sz) := xCon.of (by decide) (by exact Nat.le_of_ble_eq_true rfl) (fun F e C hr hnm => X_sub (lv' := [(0, .ref (o)), (1, .int (x1)), (2, .int (x2)), (3, .int (x3))]) [0, 1, 2, 3] rfl (Zo_narrow_x C hr hR))
def Zo_isBroken_t0 (f : Nat → Int32 → xH → Option (Int32 × xH)) (n : Nat) (o : Nat) (x1 : Int32) (h : xH) : Option (Int32 × xH) := f 2 ((0 : Int32)) h
def Zo_isBroken_t2 (f : Nat → Int32 → xH → Option (Int32 × xH)) (n : Nat) (o : Nat) (x1 : Int32) (h : xH) : Option (Int32 × xH) := obd (gi h (o) 1 0) (fun u1 => (if u1 ≤ x1 then some ((0 : Int32), h) else (if kc h (o) 1 = true then obd (Zo_at_f n (o) (x1) (x1) h) (fun r7 => (if (1 : Int32) ≤ r7.1 then f 2 (x1 + 1) r7.2 else some ((1 : Int32), r7.2))) else none)))
def Zo_isBroken_f : Nat → Nat → Nat → Int32 → xH → Option (Int32 × xH)
  | 0 => fun _ _ _ _ => none
  | n + 1 => fun p o x1 h => if p = 0 then Zo_isBroken_t0 (fun p x1 h => Zo_isBroken_f n p o x1 h) n o x1 h else if p = 2 then Zo_isBroken_t2 (fun p x1 h => Zo_isBroken_f n p o x1 h) n o x1 h else none
theorem Zo_isBroken_e0 (n : Nat) (o : Nat) (x1 : Int32) (h : xH) : Zo_isBroken_f (n + 1) 0 o x1 h = Zo_isBroken_t0 (fun p x1 h => Zo_isBroken_f n p o x1 h) n o x1 h := by
  show (if 0 = 0 then Zo_isBroken_t0 (fun p x1 h => Zo_isBroken_f n p o x1 h) n o x1 h else if 0 = 2 then Zo_isBroken_t2 (fun p x1 h => Zo_isBroken_f n p o x1 h) n o x1 h else none) = _
  rw [if_pos rfl]
theorem Zo_isBroken_e2 (n : Nat) (o : Nat) (x1 : Int32) (h : xH) : Zo_isBroken_f (n + 1) 2 o x1 h = Zo_isBroken_t2 (fun p x1 h => Zo_isBroken_f n p o x1 h) n o x1 h := by
  show (if 2 = 0 then Zo_isBroken_t0 (fun p x1 h => Zo_isBroken_f n p o x1 h) n o x1 h else if 2 = 2 then Zo_isBroken_t2 (fun p x1 h => Zo_isBroken_f n p o x1 h) n o x1 h else none) = _
  rw [if_neg (by decide), if_pos rfl]
set_option maxRecDepth 100000 in
set_option maxHeartbeats 8000000 in
theorem Zo_isBroken_x {F : xF} {G : xG} {B sz : Nat} {o : Nat} (C : xC F G B cZo_isBroken RZo 2 1 22 0 0) (hr : (xFM F).sig.returnType = (some .boolean)) : ∀ (n : Nat) (x1 : Int32) (h : xH) (R : Int32 × xH), (Zo_isBroken_f n 0 o x1 h = some R → X F G B (xZ F G B (kP (some (.int R.1)) R.2 sz) 0 0) 2 h sz 0 0 0 [(0, .ref (o))] []) ∧ (Zo_isBroken_f n 2 o x1 h = some R → X F G B (xZ F G B (kP (some (.int R.1)) R.2 sz) 0 0) 2 h sz 0 0 2 [(0, .ref (o)), (1, .int (x1))] []) := by
  intro n
  induction n with
  | zero => exact fun _ _ _ => ⟨(fun hR => nomatch (show (none : Option _) = some _ from hR)), (fun hR => nomatch (show (none : Option _) = some _ from hR))⟩
  | succ n ih =>
    intro x1 h R
    refine ⟨fun hR => ?_, fun hR => ?_⟩
    · rw [Zo_isBroken_e0] at hR
      unfold Zo_isBroken_t0 at hR
      refine X_iconst (v := 0) C dZo_isBroken_0 rfl ?_
      refine X_istore_n (lv' := [(1, .int ((0 : Int32))), (0, .ref (o))]) C dZo_isBroken_1 (by decide) rfl ?_
      refine X_sub (lv' := [(0, .ref (o)), (1, .int ((0 : Int32)))]) [1, 0] rfl ?_
      exact (ih ((0 : Int32)) _ _).2 hR
    · rw [Zo_isBroken_e2] at hR
      unfold Zo_isBroken_t2 at hR
      refine X_iload_n C dZo_isBroken_2 rfl ?_
      refine X_aload_n C dZo_isBroken_3 rfl ?_
      have hq := o_bind hR
      clear hR
      obtain ⟨u1, hx5, hR⟩ := hq
      obtain ⟨fs2, he3, hv4⟩ := gi_e hx5
      refine X_get (k := 0) C oZo fwZo_9 he3 hv4 dZo_isBroken_4 ?_
      refine X_icmp_ge (tgt := 28) C dZo_isBroken_7 (by decide) (fun c6 => ?_) (fun c6 => ?_)
      · rw [if_pos c6] at hR
        refine X_iconst (v := 0) C dZo_isBroken_28 rfl ?_
        rw [← Option.some.inj hR]
        exact X_zret C hr rfl (Nat.le_refl _) (Nat.le_refl _) dZo_isBroken_29 ⟨rfl, rfl, rfl⟩
      · rw [if_neg c6] at hR
        refine X_aload_n C dZo_isBroken_10 rfl ?_
        refine X_iload_n C dZo_isBroken_11 rfl ?_
        refine X_iload_n C dZo_isBroken_12 rfl ?_
        have hq := o_if hR
        clear hR
        obtain ⟨k9, hR⟩ := hq
        obtain ⟨fs10, he11⟩ := kc_e k9
        have hq := o_bind hR
        clear hR
        obtain ⟨r7, hr7, hR⟩ := hq
        refine X_callVk (As := [.int (x1), .int (x1)]) (rest := []) C (Zo_at_c hr7) wZo_36 ⟨by decide, by decide⟩ ⟨Nat.le_refl _, Nat.le_refl _⟩ he11 oZo.2.1 rfl rfl (Nat.le_of_ble_eq_true rfl) dZo_isBroken_13 ?_
        show X F G B _ 2 (r7.2) _ _ _ _ _ [.int (r7.1)]
        refine X_iconst (v := 1) C dZo_isBroken_16 rfl ?_
        refine X_icmp_ge (tgt := 22) C dZo_isBroken_17 (by decide) (fun c8 => ?_) (fun c8 => ?_)
        · rw [if_pos c8] at hR
          refine X_iinc (v := x1 + 1) (lv' := [(1, .int (x1 + 1)), (0, .ref (o))]) C dZo_isBroken_22 rfl rfl (by decide) rfl ?_
          refine X_goto (tgt := 2) C dZo_isBroken_25 (by decide) ?_
          refine X_sub (lv' := [(0, .ref (o)), (1, .int (x1 + 1))]) [1, 0] rfl ?_
          exact (ih (x1 + 1) _ _).2 hR
        · rw [if_neg c8] at hR
          refine X_iconst (v := 1) C dZo_isBroken_20 rfl ?_
          rw [← Option.some.inj hR]
          exact X_zret C hr rfl (Nat.le_refl _) (Nat.le_refl _) dZo_isBroken_21 ⟨rfl, rfl, rfl⟩
theorem Zo_isBroken_c {l : Launch} {G : xG} {B sz : Nat} {o : Nat} {n : Nat} {h : xH} {R : Int32 × xH} (hR : Zo_isBroken_f n 0 o 0 h = some R) : xCon l yZo_isBroken cZo_isBroken 2 (some .boolean) 1 22 0 0 G B [.ref (o)] h sz (kP (some (.int R.1)) R.2 sz) := xCon.of (by decide) (by exact Nat.le_of_ble_eq_true rfl) (fun F e C hr hnm => X_sub (lv' := [(0, .ref (o))]) [0] rfl ((Zo_isBroken_x C hr n 0 h R).1 hR))
def Zo_close_t0 (f : Nat → Int32 → Int32 → Int32 → xH → Option (Int32 × xH)) (n : Nat) (o : Nat) (x1 : Int32) (x2 : Int32) (x3 : Int32) (h : xH) : Option (Int32 × xH) := f 2 ((0 : Int32)) 0 0 h
def Zo_close_t2 (f : Nat → Int32 → Int32 → Int32 → xH → Option (Int32 × xH)) (n : Nat) (o : Nat) (x1 : Int32) (x2 : Int32) (x3 : Int32) (h : xH) : Option (Int32 × xH) := obd (gi h (o) 1 0) (fun u1 => (if u1 ≤ x1 then some (0, h) else obd (gi h (o) 1 2) (fun u7 => (if u7 = 0 then f 19 (x1) ((0 : Int32)) 0 h else some (0, h)))))
def Zo_close_t19 (f : Nat → Int32 → Int32 → Int32 → xH → Option (Int32 × xH)) (n : Nat) (o : Nat) (x1 : Int32) (x2 : Int32) (x3 : Int32) (h : xH) : Option (Int32 × xH) := obd (gi h (o) 1 0) (fun u13 => (if u13 ≤ x2 then (if kc h (o) 1 = true then obd (Zo_isBroken_f n 0 (o) 0 h) (fun r19 => (if zb (r19.1) = true then obd (pf r19.2 (o) 1 2 (.int (r19.1))) (fun h21 => f 2 (x1 + 1) 0 0 h21) else none)) else none) else f 29 (x1) (x2) ((0 : Int32)) h))
def Zo_close_t29 (f : Nat → Int32 → Int32 → Int32 → xH → Option (Int32 × xH)) (n : Nat) (o : Nat) (x1 : Int32) (x2 : Int32) (x3 : Int32) (h : xH) : Option (Int32 × xH) := obd (gi h (o) 1 0) (fun u30 => (if u30 ≤ x3 then f 19 (x1) (x2 + 1) 0 h else (if kc h (o) 1 = true then obd (Zo_at_f n (o) (x2) (x1) h) (fun r36 => (if kc r36.2 (o) 1 = true then obd (Zo_at_f n (o) (x1) (x3) r36.2) (fun r37 => obd (Zo_sum_f n (r36.1) (r37.1) r37.2) (fun r38 => (if kc r38.2 (o) 1 = true then obd (Zo_narrow_f n (o) (x2) (x3) (r38.1) r38.2) (fun r39 => f 29 (x1) (x2) (x3 + 1) r39.2) else none))) else none)) else none)))
def Zo_close_f : Nat → Nat → Nat → Int32 → Int32 → Int32 → xH → Option (Int32 × xH)
  | 0 => fun _ _ _ _ _ _ => none
  | n + 1 => fun p o x1 x2 x3 h => if p = 0 then Zo_close_t0 (fun p x1 x2 x3 h => Zo_close_f n p o x1 x2 x3 h) n o x1 x2 x3 h else if p = 2 then Zo_close_t2 (fun p x1 x2 x3 h => Zo_close_f n p o x1 x2 x3 h) n o x1 x2 x3 h else if p = 19 then Zo_close_t19 (fun p x1 x2 x3 h => Zo_close_f n p o x1 x2 x3 h) n o x1 x2 x3 h else if p = 29 then Zo_close_t29 (fun p x1 x2 x3 h => Zo_close_f n p o x1 x2 x3 h) n o x1 x2 x3 h else none
theorem Zo_close_e0 (n : Nat) (o : Nat) (x1 : Int32) (x2 : Int32) (x3 : Int32) (h : xH) : Zo_close_f (n + 1) 0 o x1 x2 x3 h = Zo_close_t0 (fun p x1 x2 x3 h => Zo_close_f n p o x1 x2 x3 h) n o x1 x2 x3 h := by
  show (if 0 = 0 then Zo_close_t0 (fun p x1 x2 x3 h => Zo_close_f n p o x1 x2 x3 h) n o x1 x2 x3 h else if 0 = 2 then Zo_close_t2 (fun p x1 x2 x3 h => Zo_close_f n p o x1 x2 x3 h) n o x1 x2 x3 h else if 0 = 19 then Zo_close_t19 (fun p x1 x2 x3 h => Zo_close_f n p o x1 x2 x3 h) n o x1 x2 x3 h else if 0 = 29 then Zo_close_t29 (fun p x1 x2 x3 h => Zo_close_f n p o x1 x2 x3 h) n o x1 x2 x3 h else none) = _
  rw [if_pos rfl]
theorem Zo_close_e2 (n : Nat) (o : Nat) (x1 : Int32) (x2 : Int32) (x3 : Int32) (h : xH) : Zo_close_f (n + 1) 2 o x1 x2 x3 h = Zo_close_t2 (fun p x1 x2 x3 h => Zo_close_f n p o x1 x2 x3 h) n o x1 x2 x3 h := by
  show (if 2 = 0 then Zo_close_t0 (fun p x1 x2 x3 h => Zo_close_f n p o x1 x2 x3 h) n o x1 x2 x3 h else if 2 = 2 then Zo_close_t2 (fun p x1 x2 x3 h => Zo_close_f n p o x1 x2 x3 h) n o x1 x2 x3 h else if 2 = 19 then Zo_close_t19 (fun p x1 x2 x3 h => Zo_close_f n p o x1 x2 x3 h) n o x1 x2 x3 h else if 2 = 29 then Zo_close_t29 (fun p x1 x2 x3 h => Zo_close_f n p o x1 x2 x3 h) n o x1 x2 x3 h else none) = _
  rw [if_neg (by decide), if_pos rfl]
theorem Zo_close_e19 (n : Nat) (o : Nat) (x1 : Int32) (x2 : Int32) (x3 : Int32) (h : xH) : Zo_close_f (n + 1) 19 o x1 x2 x3 h = Zo_close_t19 (fun p x1 x2 x3 h => Zo_close_f n p o x1 x2 x3 h) n o x1 x2 x3 h := by
  show (if 19 = 0 then Zo_close_t0 (fun p x1 x2 x3 h => Zo_close_f n p o x1 x2 x3 h) n o x1 x2 x3 h else if 19 = 2 then Zo_close_t2 (fun p x1 x2 x3 h => Zo_close_f n p o x1 x2 x3 h) n o x1 x2 x3 h else if 19 = 19 then Zo_close_t19 (fun p x1 x2 x3 h => Zo_close_f n p o x1 x2 x3 h) n o x1 x2 x3 h else if 19 = 29 then Zo_close_t29 (fun p x1 x2 x3 h => Zo_close_f n p o x1 x2 x3 h) n o x1 x2 x3 h else none) = _
  rw [if_neg (by decide), if_neg (by decide), if_pos rfl]
theorem Zo_close_e29 (n : Nat) (o : Nat) (x1 : Int32) (x2 : Int32) (x3 : Int32) (h : xH) : Zo_close_f (n + 1) 29 o x1 x2 x3 h = Zo_close_t29 (fun p x1 x2 x3 h => Zo_close_f n p o x1 x2 x3 h) n o x1 x2 x3 h := by
  show (if 29 = 0 then Zo_close_t0 (fun p x1 x2 x3 h => Zo_close_f n p o x1 x2 x3 h) n o x1 x2 x3 h else if 29 = 2 then Zo_close_t2 (fun p x1 x2 x3 h => Zo_close_f n p o x1 x2 x3 h) n o x1 x2 x3 h else if 29 = 19 then Zo_close_t19 (fun p x1 x2 x3 h => Zo_close_f n p o x1 x2 x3 h) n o x1 x2 x3 h else if 29 = 29 then Zo_close_t29 (fun p x1 x2 x3 h => Zo_close_f n p o x1 x2 x3 h) n o x1 x2 x3 h else none) = _
  rw [if_neg (by decide), if_neg (by decide), if_neg (by decide), if_pos rfl]
set_option maxRecDepth 100000 in
set_option maxHeartbeats 8000000 in
theorem Zo_close_x {F : xF} {G : xG} {B sz : Nat} {o : Nat} (C : xC F G B cZo_close RZo 4 2 45 0 0) (hr : (xFM F).sig.returnType = none) : ∀ (n : Nat) (x1 : Int32) (x2 : Int32) (x3 : Int32) (h : xH) (R : Int32 × xH), (Zo_close_f n 0 o x1 x2 x3 h = some R → X F G B (xZ F G B (kP none R.2 sz) 0 0) 4 h sz 0 0 0 [(0, .ref (o))] []) ∧ (Zo_close_f n 2 o x1 x2 x3 h = some R → X F G B (xZ F G B (kP none R.2 sz) 0 0) 4 h sz 0 0 2 [(0, .ref (o)), (1, .int (x1))] []) ∧ (Zo_close_f n 19 o x1 x2 x3 h = some R → X F G B (xZ F G B (kP none R.2 sz) 0 0) 4 h sz 0 0 19 [(0, .ref (o)), (1, .int (x1)), (2, .int (x2))] []) ∧ (Zo_close_f n 29 o x1 x2 x3 h = some R → X F G B (xZ F G B (kP none R.2 sz) 0 0) 4 h sz 0 0 29 [(0, .ref (o)), (1, .int (x1)), (2, .int (x2)), (3, .int (x3))] []) := by
  intro n
  induction n with
  | zero => exact fun _ _ _ _ _ => ⟨(fun hR => nomatch (show (none : Option _) = some _ from hR)), (fun hR => nomatch (show (none : Option _) = some _ from hR)), (fun hR => nomatch (show (none : Option _) = some _ from hR)), (fun hR => nomatch (show (none : Option _) = some _ from hR))⟩
  | succ n ih =>
    intro x1 x2 x3 h R
    refine ⟨fun hR => ?_, fun hR => ?_, fun hR => ?_, fun hR => ?_⟩
    · rw [Zo_close_e0] at hR
      unfold Zo_close_t0 at hR
      refine X_iconst (v := 0) C dZo_close_0 rfl ?_
      refine X_istore_n (lv' := [(1, .int ((0 : Int32))), (0, .ref (o))]) C dZo_close_1 (by decide) rfl ?_
      refine X_sub (lv' := [(0, .ref (o)), (1, .int ((0 : Int32)))]) [1, 0] rfl ?_
      exact (ih ((0 : Int32)) 0 0 _ _).2.1 hR
    · rw [Zo_close_e2] at hR
      unfold Zo_close_t2 at hR
      refine X_iload_n C dZo_close_2 rfl ?_
      refine X_aload_n C dZo_close_3 rfl ?_
      have hq := o_bind hR
      clear hR
      obtain ⟨u1, hx5, hR⟩ := hq
      obtain ⟨fs2, he3, hv4⟩ := gi_e hx5
      refine X_get (k := 0) C oZo fwZo_9 he3 hv4 dZo_close_4 ?_
      refine X_icmp_ge (tgt := 84) C dZo_close_7 (by decide) (fun c6 => ?_) (fun c6 => ?_)
      · rw [if_pos c6] at hR
        rw [← Option.some.inj hR]
        exact X_vret C hr (Nat.le_refl _) (Nat.le_refl _) dZo_close_84 ⟨rfl, rfl, rfl⟩
      · rw [if_neg c6] at hR
        refine X_aload_n C dZo_close_10 rfl ?_
        have hq := o_bind hR
        clear hR
        obtain ⟨u7, hx11, hR⟩ := hq
        obtain ⟨fs8, he9, hv10⟩ := gi_e hx11
        refine X_get (k := 2) C oZo fwZo_26 he9 hv10 dZo_close_11 ?_
        refine X_if_ne (tgt := 84) C dZo_close_14 (by decide) (fun c12 => ?_) (fun c12 => ?_)
        · rw [if_neg c12] at hR
          rw [← Option.some.inj hR]
          exact X_vret C hr (Nat.le_refl _) (Nat.le_refl _) dZo_close_84 ⟨rfl, rfl, rfl⟩
        · rw [if_pos c12] at hR
          refine X_iconst (v := 0) C dZo_close_17 rfl ?_
          refine X_istore_n (lv' := [(2, .int ((0 : Int32))), (0, .ref (o)), (1, .int (x1))]) C dZo_close_18 (by decide) rfl ?_
          refine X_sub (lv' := [(0, .ref (o)), (1, .int (x1)), (2, .int ((0 : Int32)))]) [1, 2, 0] rfl ?_
          exact (ih (x1) ((0 : Int32)) 0 _ _).2.2.1 hR
    · rw [Zo_close_e19] at hR
      unfold Zo_close_t19 at hR
      refine X_iload_n C dZo_close_19 rfl ?_
      refine X_aload_n C dZo_close_20 rfl ?_
      have hq := o_bind hR
      clear hR
      obtain ⟨u13, hx17, hR⟩ := hq
      obtain ⟨fs14, he15, hv16⟩ := gi_e hx17
      refine X_get (k := 0) C oZo fwZo_9 he15 hv16 dZo_close_21 ?_
      refine X_icmp_ge (tgt := 70) C dZo_close_24 (by decide) (fun c18 => ?_) (fun c18 => ?_)
      · rw [if_pos c18] at hR
        refine X_aload_n C dZo_close_70 rfl ?_
        refine X_aload_n C dZo_close_71 rfl ?_
        have hq := o_if hR
        clear hR
        obtain ⟨k27, hR⟩ := hq
        obtain ⟨fs28, he29⟩ := kc_e k27
        have hq := o_bind hR
        clear hR
        obtain ⟨r19, hr19, hR⟩ := hq
        refine X_callVk (As := []) (rest := [.ref (o)]) C (Zo_isBroken_c hr19) wZo_64 ⟨by decide, by decide⟩ ⟨Nat.le_refl _, Nat.le_refl _⟩ he29 oZo.2.1 rfl rfl (Nat.le_of_ble_eq_true rfl) dZo_close_72 ?_
        show X F G B _ 4 (r19.2) _ _ _ _ _ [.int (r19.1), .ref (o)]
        have hq := o_if hR
        clear hR
        obtain ⟨b20, hR⟩ := hq
        have hq := o_bind hR
        clear hR
        obtain ⟨h21, hh22, hR⟩ := hq
        obtain ⟨fs23, he24, hl25, e26⟩ := pf_e hh22
        refine X_put (k := 2) C oZo fwZo_26 rfl he24 (zb_n b20) (zb_f b20) hl25 dZo_close_75 ?_
        rw [← e26]
        refine X_iinc (v := x1 + 1) (lv' := [(1, .int (x1 + 1)), (0, .ref (o)), (2, .int (x2))]) C dZo_close_78 rfl rfl (by decide) rfl ?_
        refine X_goto (tgt := 2) C dZo_close_81 (by decide) ?_
        refine X_sub (lv' := [(0, .ref (o)), (1, .int (x1 + 1))]) [1, 0] rfl ?_
        exact (ih (x1 + 1) 0 0 _ _).2.1 hR
      · rw [if_neg c18] at hR
        refine X_iconst (v := 0) C dZo_close_27 rfl ?_
        refine X_istore_n (lv' := [(3, .int ((0 : Int32))), (0, .ref (o)), (1, .int (x1)), (2, .int (x2))]) C dZo_close_28 (by decide) rfl ?_
        refine X_sub (lv' := [(0, .ref (o)), (1, .int (x1)), (2, .int (x2)), (3, .int ((0 : Int32)))]) [1, 2, 3, 0] rfl ?_
        exact (ih (x1) (x2) ((0 : Int32)) _ _).2.2.2 hR
    · rw [Zo_close_e29] at hR
      unfold Zo_close_t29 at hR
      refine X_iload_n C dZo_close_29 rfl ?_
      refine X_aload_n C dZo_close_30 rfl ?_
      have hq := o_bind hR
      clear hR
      obtain ⟨u30, hx34, hR⟩ := hq
      obtain ⟨fs31, he32, hv33⟩ := gi_e hx34
      refine X_get (k := 0) C oZo fwZo_9 he32 hv33 dZo_close_31 ?_
      refine X_icmp_ge (tgt := 64) C dZo_close_34 (by decide) (fun c35 => ?_) (fun c35 => ?_)
      · rw [if_pos c35] at hR
        refine X_iinc (v := x2 + 1) (lv' := [(2, .int (x2 + 1)), (0, .ref (o)), (1, .int (x1)), (3, .int (x3))]) C dZo_close_64 rfl rfl (by decide) rfl ?_
        refine X_goto (tgt := 19) C dZo_close_67 (by decide) ?_
        refine X_sub (lv' := [(0, .ref (o)), (1, .int (x1)), (2, .int (x2 + 1))]) [1, 2, 0] rfl ?_
        exact (ih (x1) (x2 + 1) 0 _ _).2.2.1 hR
      · rw [if_neg c35] at hR
        refine X_aload_n C dZo_close_37 rfl ?_
        refine X_iload_n C dZo_close_38 rfl ?_
        refine X_iload_n C dZo_close_39 rfl ?_
        refine X_aload_n C dZo_close_40 rfl ?_
        refine X_iload_n C dZo_close_41 rfl ?_
        refine X_iload_n C dZo_close_42 rfl ?_
        have hq := o_if hR
        clear hR
        obtain ⟨k46, hR⟩ := hq
        obtain ⟨fs47, he48⟩ := kc_e k46
        have hq := o_bind hR
        clear hR
        obtain ⟨r36, hr36, hR⟩ := hq
        refine X_callVk (As := [.int (x2), .int (x1)]) (rest := [.int (x3), .int (x2), .ref (o)]) C (Zo_at_c hr36) wZo_36 ⟨by decide, by decide⟩ ⟨Nat.le_refl _, Nat.le_refl _⟩ he48 oZo.2.1 rfl rfl (Nat.le_of_ble_eq_true rfl) dZo_close_43 ?_
        show X F G B _ 4 (r36.2) _ _ _ _ _ [.int (r36.1), .int (x3), .int (x2), .ref (o)]
        refine X_aload_n C dZo_close_46 rfl ?_
        refine X_iload_n C dZo_close_47 rfl ?_
        refine X_iload_n C dZo_close_48 rfl ?_
        have hq := o_if hR
        clear hR
        obtain ⟨k43, hR⟩ := hq
        obtain ⟨fs44, he45⟩ := kc_e k43
        have hq := o_bind hR
        clear hR
        obtain ⟨r37, hr37, hR⟩ := hq
        refine X_callVk (As := [.int (x1), .int (x3)]) (rest := [.int (r36.1), .int (x3), .int (x2), .ref (o)]) C (Zo_at_c hr37) wZo_36 ⟨by decide, by decide⟩ ⟨Nat.le_refl _, Nat.le_refl _⟩ he45 oZo.2.1 rfl rfl (Nat.le_of_ble_eq_true rfl) dZo_close_49 ?_
        show X F G B _ 4 (r37.2) _ _ _ _ _ [.int (r37.1), .int (r36.1), .int (x3), .int (x2), .ref (o)]
        have hq := o_bind hR
        clear hR
        obtain ⟨r38, hr38, hR⟩ := hq
        refine X_callSk (As := [.int (r36.1), .int (r37.1)]) (rest := [.int (x3), .int (x2), .ref (o)]) C (Zo_sum_c hr38) wZo_49 ⟨by decide, by decide⟩ ⟨Nat.le_refl _, Nat.le_refl _⟩ rfl rfl (Nat.le_of_ble_eq_true rfl) dZo_close_52 ?_
        show X F G B _ 4 (r38.2) _ _ _ _ _ [.int (r38.1), .int (x3), .int (x2), .ref (o)]
        have hq := o_if hR
        clear hR
        obtain ⟨k40, hR⟩ := hq
        obtain ⟨fs41, he42⟩ := kc_e k40
        have hq := o_bind hR
        clear hR
        obtain ⟨r39, hr39, hR⟩ := hq
        refine X_callVk (As := [.int (x2), .int (x3), .int (r38.1)]) (rest := []) C (Zo_narrow_c hr39) wZo_45 ⟨by decide, by decide⟩ ⟨Nat.le_refl _, Nat.le_refl _⟩ he42 oZo.2.1 rfl rfl (Nat.le_of_ble_eq_true rfl) dZo_close_55 ?_
        show X F G B _ 4 (r39.2) _ _ _ _ _ []
        refine X_iinc (v := x3 + 1) (lv' := [(3, .int (x3 + 1)), (0, .ref (o)), (1, .int (x1)), (2, .int (x2))]) C dZo_close_58 rfl rfl (by decide) rfl ?_
        refine X_goto (tgt := 29) C dZo_close_61 (by decide) ?_
        refine X_sub (lv' := [(0, .ref (o)), (1, .int (x1)), (2, .int (x2)), (3, .int (x3 + 1))]) [1, 2, 3, 0] rfl ?_
        exact (ih (x1) (x2) (x3 + 1) _ _).2.2.2 hR
theorem Zo_close_c {l : Launch} {G : xG} {B sz : Nat} {o : Nat} {n : Nat} {h : xH} {R : Int32 × xH} (hR : Zo_close_f n 0 o 0 0 0 h = some R) : xCon l yZo_close cZo_close 4 none 2 45 0 0 G B [.ref (o)] h sz (kP none R.2 sz) := xCon.of (by decide) (by exact Nat.le_of_ble_eq_true rfl) (fun F e C hr hnm => X_sub (lv' := [(0, .ref (o))]) [0] rfl ((Zo_close_x C hr n 0 0 0 h R).1 hR))
def Ya_letGreatGo_f (n : Nat) (o : Nat)  (h : xH) : Option (Int32 × xH) := obd (gi h (o) 3 8) (fun u1 => (if u1 = 0 then some (0, h) else obd (gq h (o) 3 11) (fun w7 => obd (gq h (o) 3 9) (fun w12 => obd w7 (fun a17 => (if kc h (a17) 1 = true then obd (Zo_loosen_f n 0 (a17) (w12) 0 0 0 h) (fun r18 => (if r18.1 = 0 then some (0, r18.2) else obd (gq r18.2 (o) 3 11) (fun w20 => obd w20 (fun a25 => (if kc r18.2 (a25) 1 = true then obd (Zo_close_f n 0 (a25) 0 0 0 r18.2) (fun r26 => some (0, r26.2)) else none))))) else none))))))
set_option maxRecDepth 100000 in
set_option maxHeartbeats 8000000 in
theorem Ya_letGreatGo_x {F : xF} {G : xG} {B sz : Nat} {o : Nat} (C : xC F G B cYa_letGreatGo RYa 1 3 70 0 0) (hr : (xFM F).sig.returnType = none) {n : Nat} {h : xH} {R : Int32 × xH} (hR : Ya_letGreatGo_f n o  h = some R) : X F G B (xZ F G B (kP none R.2 sz) 0 0) 1 h sz 0 0 0 [(0, .ref (o))] [] := by
  unfold Ya_letGreatGo_f at hR
  refine X_aload_n C dYa_letGreatGo_0 rfl ?_
  have hq := o_bind hR
  clear hR
  obtain ⟨u1, hx5, hR⟩ := hq
  obtain ⟨fs2, he3, hv4⟩ := gi_e hx5
  refine X_get (k := 8) C oYa fwYa_23 he3 hv4 dYa_letGreatGo_1 ?_
  refine X_if_eq (tgt := 28) C dYa_letGreatGo_4 (by decide) (fun c6 => ?_) (fun c6 => ?_)
  · rw [if_pos c6] at hR
    rw [← Option.some.inj hR]
    exact X_vret C hr (Nat.le_refl _) (Nat.le_refl _) dYa_letGreatGo_28 ⟨rfl, rfl, rfl⟩
  · rw [if_neg c6] at hR
    refine X_aload_n C dYa_letGreatGo_7 rfl ?_
    have hq := o_bind hR
    clear hR
    obtain ⟨w7, hx11, hR⟩ := hq
    obtain ⟨fs8, he9, hv10⟩ := gq_e hx11
    refine X_get (k := 11) C oYa fwYa_39 he9 hv10 dYa_letGreatGo_8 ?_
    refine X_aload_n C dYa_letGreatGo_11 rfl ?_
    have hq := o_bind hR
    clear hR
    obtain ⟨w12, hx16, hR⟩ := hq
    obtain ⟨fs13, he14, hv15⟩ := gq_e hx16
    refine X_get (k := 9) C oYa fwYa_27 he14 hv15 dYa_letGreatGo_12 ?_
    have hq := o_bind hR
    clear hR
    obtain ⟨a17, rfl, hR⟩ := hq
    have hq := o_if hR
    clear hR
    obtain ⟨k30, hR⟩ := hq
    obtain ⟨fs31, he32⟩ := kc_e k30
    have hq := o_bind hR
    clear hR
    obtain ⟨r18, hr18, hR⟩ := hq
    refine X_callVk (As := [va_rf (w12)]) (rest := []) C (Zo_loosen_c hr18) wYa_235 ⟨by decide, by decide⟩ ⟨Nat.le_refl _, Nat.le_refl _⟩ he32 oZo.2.1 rfl rfl (Nat.le_of_ble_eq_true rfl) dYa_letGreatGo_15 ?_
    show X F G B _ 1 (r18.2) _ _ _ _ _ [.int (r18.1)]
    refine X_if_eq (tgt := 28) C dYa_letGreatGo_18 (by decide) (fun c19 => ?_) (fun c19 => ?_)
    · rw [if_pos c19] at hR
      rw [← Option.some.inj hR]
      exact X_vret C hr (Nat.le_refl _) (Nat.le_refl _) dYa_letGreatGo_28 ⟨rfl, rfl, rfl⟩
    · rw [if_neg c19] at hR
      refine X_aload_n C dYa_letGreatGo_21 rfl ?_
      have hq := o_bind hR
      clear hR
      obtain ⟨w20, hx24, hR⟩ := hq
      obtain ⟨fs21, he22, hv23⟩ := gq_e hx24
      refine X_get (k := 11) C oYa fwYa_39 he22 hv23 dYa_letGreatGo_22 ?_
      have hq := o_bind hR
      clear hR
      obtain ⟨a25, rfl, hR⟩ := hq
      have hq := o_if hR
      clear hR
      obtain ⟨k27, hR⟩ := hq
      obtain ⟨fs28, he29⟩ := kc_e k27
      have hq := o_bind hR
      clear hR
      obtain ⟨r26, hr26, hR⟩ := hq
      refine X_callVk (As := []) (rest := []) C (Zo_close_c hr26) wYa_239 ⟨by decide, by decide⟩ ⟨Nat.le_refl _, Nat.le_refl _⟩ he29 oZo.2.1 rfl rfl (Nat.le_of_ble_eq_true rfl) dYa_letGreatGo_25 ?_
      show X F G B _ 1 (r26.2) _ _ _ _ _ []
      rw [← Option.some.inj hR]
      exact X_vret C hr (Nat.le_refl _) (Nat.le_refl _) dYa_letGreatGo_28 ⟨rfl, rfl, rfl⟩
theorem Ya_letGreatGo_c {l : Launch} {G : xG} {B sz : Nat} {o : Nat} {n : Nat} {h : xH} {R : Int32 × xH} (hR : Ya_letGreatGo_f n o  h = some R) : xCon l yYa_letGreatGo cYa_letGreatGo 1 none 3 70 0 0 G B [.ref (o)] h sz (kP none R.2 sz) := xCon.of (by decide) (by exact Nat.le_of_ble_eq_true rfl) (fun F e C hr hnm => X_sub (lv' := [(0, .ref (o))]) [0] rfl (Ya_letGreatGo_x C hr hR))
def Zo_becomeAs_f (n : Nat) (o : Nat) (y1 : Option Nat) (h : xH) : Option (Int32 × xH) := obd y1 (fun a1 => obd (gi h (a1) 1 0) (fun u2 => obd (gi h (o) 1 0) (fun u7 => (if u2 = u7 then obd (gq h (a1) 1 1) (fun w13 => obd (gq h (o) 1 1) (fun w18 => obd (gq h (o) 1 1) (fun w23 => obd w23 (fun a28 => obd (al h (a28) 0) (fun u29 => obd w13 (fun a34 => obd w18 (fun a35 => obd (cpi h (a34) ((0 : Int32)) (a35) ((0 : Int32)) (u29)) (fun h36 => obd (gi h36 (a1) 1 2) (fun u50 => (if zb (u50) = true then obd (pf h36 (o) 1 2 (.int (u50))) (fun h56 => some (0, h56)) else none)))))))))) else some (0, h)))))
set_option maxRecDepth 100000 in
set_option maxHeartbeats 8000000 in
theorem Zo_becomeAs_x {F : xF} {G : xG} {B sz : Nat} {o : Nat} (C : xC F G B cZo_becomeAs RZo 2 1 40 0 0) (hr : (xFM F).sig.returnType = none) {n : Nat} {y1 : Option Nat} {h : xH} {R : Int32 × xH} (hR : Zo_becomeAs_f n o y1 h = some R) : X F G B (xZ F G B (kP none R.2 sz) 0 0) 2 h sz 0 0 0 [(0, .ref (o)), (1, va_rf (y1))] [] := by
  unfold Zo_becomeAs_f at hR
  refine X_aload_nq C dZo_becomeAs_0 rfl ?_
  have hq := o_bind hR
  clear hR
  obtain ⟨a1, rfl, hR⟩ := hq
  have hq := o_bind hR
  clear hR
  obtain ⟨u2, hx6, hR⟩ := hq
  obtain ⟨fs3, he4, hv5⟩ := gi_e hx6
  refine X_get (k := 0) C oZo fwZo_9 he4 hv5 dZo_becomeAs_1 ?_
  refine X_aload_n C dZo_becomeAs_4 rfl ?_
  have hq := o_bind hR
  clear hR
  obtain ⟨u7, hx11, hR⟩ := hq
  obtain ⟨fs8, he9, hv10⟩ := gi_e hx11
  refine X_get (k := 0) C oZo fwZo_9 he9 hv10 dZo_becomeAs_5 ?_
  refine X_icmp_eq (tgt := 12) C dZo_becomeAs_8 (by decide) (fun c12 => ?_) (fun c12 => ?_)
  · rw [if_pos c12] at hR
    refine X_aload_n C dZo_becomeAs_12 rfl ?_
    have hq := o_bind hR
    clear hR
    obtain ⟨w13, hx17, hR⟩ := hq
    obtain ⟨fs14, he15, hv16⟩ := gq_e hx17
    refine X_get (k := 1) C oZo fwZo_15 he15 hv16 dZo_becomeAs_13 ?_
    refine X_iconst (v := 0) C dZo_becomeAs_16 rfl ?_
    refine X_aload_n C dZo_becomeAs_17 rfl ?_
    have hq := o_bind hR
    clear hR
    obtain ⟨w18, hx22, hR⟩ := hq
    obtain ⟨fs19, he20, hv21⟩ := gq_e hx22
    refine X_get (k := 1) C oZo fwZo_15 he20 hv21 dZo_becomeAs_18 ?_
    refine X_iconst (v := 0) C dZo_becomeAs_21 rfl ?_
    refine X_aload_n C dZo_becomeAs_22 rfl ?_
    have hq := o_bind hR
    clear hR
    obtain ⟨w23, hx27, hR⟩ := hq
    obtain ⟨fs24, he25, hv26⟩ := gq_e hx27
    refine X_get (k := 1) C oZo fwZo_15 he25 hv26 dZo_becomeAs_23 ?_
    have hq := o_bind hR
    clear hR
    obtain ⟨a28, rfl, hR⟩ := hq
    have hq := o_bind hR
    clear hR
    obtain ⟨u29, hx30, hR⟩ := hq
    obtain ⟨v31, he32, e33⟩ := al_e hx30
    refine X_alen C rfl he32 e33 dZo_becomeAs_26 ?_
    have hq := o_bind hR
    clear hR
    obtain ⟨a34, rfl, hR⟩ := hq
    have hq := o_bind hR
    clear hR
    obtain ⟨a35, rfl, hR⟩ := hq
    have hq := o_bind hR
    clear hR
    obtain ⟨h36, hh37, hR⟩ := hq
    obtain ⟨n38, n39, n40, n41, n42, n43, n44, n45, n46, n47, n48, n49⟩ := cpi_e hh37
    refine X_copyi C cpZo_30 rfl n42 n43 n44 n45 n46 n47 n48 ⟨by decide, Nat.le_of_ble_eq_true rfl⟩ dZo_becomeAs_27 ?_
    rw [← n49]
    refine X_aload_n C dZo_becomeAs_30 rfl ?_
    refine X_aload_n C dZo_becomeAs_31 rfl ?_
    have hq := o_bind hR
    clear hR
    obtain ⟨u50, hx54, hR⟩ := hq
    obtain ⟨fs51, he52, hv53⟩ := gi_e hx54
    refine X_get (k := 2) C oZo fwZo_26 he52 hv53 dZo_becomeAs_32 ?_
    have hq := o_if hR
    clear hR
    obtain ⟨b55, hR⟩ := hq
    have hq := o_bind hR
    clear hR
    obtain ⟨h56, hh57, hR⟩ := hq
    obtain ⟨fs58, he59, hl60, e61⟩ := pf_e hh57
    refine X_put (k := 2) C oZo fwZo_26 rfl he59 (zb_n b55) (zb_f b55) hl60 dZo_becomeAs_35 ?_
    rw [← e61]
    rw [← Option.some.inj hR]
    exact X_vret C hr (Nat.le_refl _) (Nat.le_refl _) dZo_becomeAs_38 ⟨rfl, rfl, rfl⟩
  · rw [if_neg c12] at hR
    rw [← Option.some.inj hR]
    exact X_vret C hr (Nat.le_refl _) (Nat.le_refl _) dZo_becomeAs_11 ⟨rfl, rfl, rfl⟩
theorem Zo_becomeAs_c {l : Launch} {G : xG} {B sz : Nat} {o : Nat} {n : Nat} {y1 : Option Nat} {h : xH} {R : Int32 × xH} (hR : Zo_becomeAs_f n o y1 h = some R) : xCon l yZo_becomeAs cZo_becomeAs 2 none 1 40 0 0 G B [.ref (o), va_rf (y1)] h sz (kP none R.2 sz) := xCon.of (by decide) (by simp [lg_sl, rf_cat, cat_i, cat_r, cat_l]) (fun F e C hr hnm => X_sub (lv' := [(0, .ref (o)), (1, va_rf (y1))]) [0, 1] (by simp [lv_args, lv_pick, rf_cat, cat_i, cat_r, cat_l]) (Zo_becomeAs_x C hr hR))
def Ya_begin_t0 (f : Nat → Int32 → xH → Nat → Option (Int32 × xH × Nat × Nat)) (n : Nat) (o : Nat) (x1 : Int32) (h : xH) (z : Nat) : Option (Int32 × xH × Nat × Nat) := obd (pf h (o) 3 3 (.int ((0 : Int32)))) (fun h1 => obd (pf h1 (o) 3 4 (.int ((0 : Int32)))) (fun h7 => obd (pf h7 (o) 3 5 (.int ((0 : Int32)))) (fun h13 => obd (pf h13 (o) 3 6 (.int ((0 : Int32)))) (fun h19 => obd (pf h19 (o) 3 7 (.int ((1 : Int32)))) (fun h25 => (if kc h25 (o) 3 = true then obd (Ya_findGreatest_f n 0 (o) 0 0 h25) (fun r31 => f 31 ((0 : Int32)) r31.2 (z)) else none))))))
def Ya_begin_t31 (f : Nat → Int32 → xH → Nat → Option (Int32 × xH × Nat × Nat)) (n : Nat) (o : Nat) (x1 : Int32) (h : xH) (z : Nat) : Option (Int32 × xH × Nat × Nat) := (if (3 : Int32) ≤ x1 then obd (gq h (o) 3 11) (fun w36 => obd w36 (fun a41 => (if kc h (a41) 1 = true then obd (Zo_becomeAllZero_f n (a41) h) (fun r42 => obd (gq r42.2 (o) 3 11) (fun w43 => (if kc r42.2 (o) 3 = true then obd (Ya_confine_f n 0 (o) (w43) 0 none 0 r42.2) (fun r48 => obd (gq r48.2 (o) 3 11) (fun w49 => (if kc r48.2 (o) 3 = true then obd (Ya_stay_f n (o) (w49) r48.2) (fun r54 => obd (gq r54.2 (o) 3 11) (fun w55 => obd w55 (fun a60 => obd (gi r54.2 (a60) 1 2) (fun u61 => (if u61 = 0 then (if kc r54.2 (o) 3 = true then obd (Ya_newState_f n (o) none r54.2 (z)) (fun r67 => oadd r67.2.2.1 r67.2.2.2 (bnd (r67.1) (fun w68 => obd w68 (fun a70 => obd (gq r67.2.1 (a70) 2 4) (fun w71 => obd w71 (fun a76 => (if kc r67.2.1 (a76) 1 = true then obd (Zo_becomeAllZero_f n (a76) r67.2.1) (fun r77 => obd (gq r77.2 (a70) 2 4) (fun w78 => (if kc r77.2 (o) 3 = true then obd (Ya_stay_f n (o) (w78) r77.2) (fun r83 => obd (pf r83.2 (a70) 2 10 (.int ((0 : Int32)))) (fun h84 => (if kc h84 (o) 3 = true then obd (Ya_letGreatGo_f n (o) h84) (fun r90 => obd (gq r90.2 (a70) 2 3) (fun w91 => obd (gq r90.2 (o) 3 11) (fun w96 => obd w91 (fun a101 => (if kc r90.2 (a101) 1 = true then obd (Zo_becomeAs_f n (a101) (w96) r90.2) (fun r102 => some (0, r102.2, 0, 0)) else none))))) else none))) else none))) else none))))))) else none) else some (0, r54.2, 0, 0)))))) else none))) else none))) else none))) else obd (gq h (o) 3 10) (fun w129 => obd (gi h (o) 3 1) (fun u134 => (if u134 ≤ x1 then obd w129 (fun a140 => obd (pa h (a140) 0 (x1) (((-2) : Int32))) (fun h141 => f 31 (x1 + 1) h141 (z))) else obd w129 (fun a148 => obd (pa h (a148) 0 (x1) ((0 : Int32))) (fun h149 => f 31 (x1 + 1) h149 (z)))))))
def Ya_begin_f : Nat → Nat → Nat → Int32 → xH → Nat → Option (Int32 × xH × Nat × Nat)
  | 0 => fun _ _ _ _ _ => none
  | n + 1 => fun p o x1 h z => if p = 0 then Ya_begin_t0 (fun p x1 h z => Ya_begin_f n p o x1 h z) n o x1 h z else if p = 31 then Ya_begin_t31 (fun p x1 h z => Ya_begin_f n p o x1 h z) n o x1 h z else none
theorem Ya_begin_e0 (n : Nat) (o : Nat) (x1 : Int32) (h : xH) (z : Nat) : Ya_begin_f (n + 1) 0 o x1 h z = Ya_begin_t0 (fun p x1 h z => Ya_begin_f n p o x1 h z) n o x1 h z := by
  show (if 0 = 0 then Ya_begin_t0 (fun p x1 h z => Ya_begin_f n p o x1 h z) n o x1 h z else if 0 = 31 then Ya_begin_t31 (fun p x1 h z => Ya_begin_f n p o x1 h z) n o x1 h z else none) = _
  rw [if_pos rfl]
theorem Ya_begin_e31 (n : Nat) (o : Nat) (x1 : Int32) (h : xH) (z : Nat) : Ya_begin_f (n + 1) 31 o x1 h z = Ya_begin_t31 (fun p x1 h z => Ya_begin_f n p o x1 h z) n o x1 h z := by
  show (if 31 = 0 then Ya_begin_t0 (fun p x1 h z => Ya_begin_f n p o x1 h z) n o x1 h z else if 31 = 31 then Ya_begin_t31 (fun p x1 h z => Ya_begin_f n p o x1 h z) n o x1 h z else none) = _
  rw [if_neg (by decide), if_pos rfl]
set_option maxRecDepth 100000 in
set_option maxHeartbeats 8000000 in
theorem Ya_begin_x {F : xF} {G : xG} {B mc ms : Nat} {o : Nat} (C : xC F G B cYa_begin RYa 2 4 93 mc ms) (hr : (xFM F).sig.returnType = none) : ∀ (n : Nat) (x1 : Int32) (h : xH) (z cs ss : Nat) (R : Int32 × xH × Nat × Nat) (Zf : Nat), cs + R.2.2.1 ≤ mc → ss + R.2.2.2 ≤ ms → Zf = z + R.2.2.1 → ((Ya_begin_f n 0 o x1 h z = some R → X F G B (xZ F G B (kP none R.2.1 Zf) mc ms) 2 h z cs ss 0 [(0, .ref (o))] []) ∧ (Ya_begin_f n 31 o x1 h z = some R → X F G B (xZ F G B (kP none R.2.1 Zf) mc ms) 2 h z cs ss 31 [(0, .ref (o)), (1, .int (x1))] [])) := by
  intro n
  induction n with
  | zero => exact fun _ _ _ _ _ _ _ _ _ _ => ⟨(fun hR => nomatch (show (none : Option _) = some _ from hR)), (fun hR => nomatch (show (none : Option _) = some _ from hR))⟩
  | succ n ih =>
    intro x1 h z cs ss R Zf hm hs hz
    refine ⟨fun hR => ?_, fun hR => ?_⟩
    · rw [Ya_begin_e0] at hR
      unfold Ya_begin_t0 at hR
      refine X_aload_n C dYa_begin_0 rfl ?_
      refine X_iconst (v := 0) C dYa_begin_1 rfl ?_
      have hq := o_bind hR
      clear hR
      obtain ⟨h1, hh2, hR⟩ := hq
      obtain ⟨fs3, he4, hl5, e6⟩ := pf_e hh2
      refine X_put (k := 3) C oYa fwYa_65 rfl he4 rfl rfl hl5 dYa_begin_2 ?_
      rw [← e6]
      refine X_aload_n C dYa_begin_5 rfl ?_
      refine X_iconst (v := 0) C dYa_begin_6 rfl ?_
      have hq := o_bind hR
      clear hR
      obtain ⟨h7, hh8, hR⟩ := hq
      obtain ⟨fs9, he10, hl11, e12⟩ := pf_e hh8
      refine X_put (k := 4) C oYa fwYa_72 rfl he10 rfl rfl hl11 dYa_begin_7 ?_
      rw [← e12]
      refine X_aload_n C dYa_begin_10 rfl ?_
      refine X_iconst (v := 0) C dYa_begin_11 rfl ?_
      have hq := o_bind hR
      clear hR
      obtain ⟨h13, hh14, hR⟩ := hq
      obtain ⟨fs15, he16, hl17, e18⟩ := pf_e hh14
      refine X_put (k := 5) C oYa fwYa_75 rfl he16 rfl rfl hl17 dYa_begin_12 ?_
      rw [← e18]
      refine X_aload_n C dYa_begin_15 rfl ?_
      refine X_iconst (v := 0) C dYa_begin_16 rfl ?_
      have hq := o_bind hR
      clear hR
      obtain ⟨h19, hh20, hR⟩ := hq
      obtain ⟨fs21, he22, hl23, e24⟩ := pf_e hh20
      refine X_put (k := 6) C oYa fwYa_78 rfl he22 rfl rfl hl23 dYa_begin_17 ?_
      rw [← e24]
      refine X_aload_n C dYa_begin_20 rfl ?_
      refine X_iconst (v := 1) C dYa_begin_21 rfl ?_
      have hq := o_bind hR
      clear hR
      obtain ⟨h25, hh26, hR⟩ := hq
      obtain ⟨fs27, he28, hl29, e30⟩ := pf_e hh26
      refine X_put (k := 7) C oYa fwYa_81 rfl he28 rfl rfl hl29 dYa_begin_22 ?_
      rw [← e30]
      refine X_aload_n C dYa_begin_25 rfl ?_
      have hq := o_if hR
      clear hR
      obtain ⟨k32, hR⟩ := hq
      obtain ⟨fs33, he34⟩ := kc_e k32
      have hq := o_bind hR
      clear hR
      obtain ⟨r31, hr31, hR⟩ := hq
      refine X_callVk (As := []) (rest := []) C (Ya_findGreatest_c hr31) wYa_84 ⟨by decide, by decide⟩ ⟨by omega, by omega⟩ he34 oYa.2.1 rfl rfl (Nat.le_of_ble_eq_true rfl) dYa_begin_26 ?_
      show X F G B _ 2 (r31.2) _ _ _ _ _ []
      refine X_iconst (v := 0) C dYa_begin_29 rfl ?_
      refine X_istore_n (lv' := [(1, .int ((0 : Int32))), (0, .ref (o))]) C dYa_begin_30 (by decide) rfl ?_
      refine X_sub (lv' := [(0, .ref (o)), (1, .int ((0 : Int32)))]) [1, 0] rfl ?_
      exact (ih ((0 : Int32)) _ _ _ _ _ _ (by omega) (by omega) (by omega)).2 hR
    · rw [Ya_begin_e31] at hR
      unfold Ya_begin_t31 at hR
      refine X_iload_n C dYa_begin_31 rfl ?_
      refine X_iconst (v := 3) C dYa_begin_32 rfl ?_
      refine X_icmp_ge (tgt := 62) C dYa_begin_33 (by decide) (fun c35 => ?_) (fun c35 => ?_)
      · rw [if_pos c35] at hR
        refine X_aload_n C dYa_begin_62 rfl ?_
        have hq := o_bind hR
        clear hR
        obtain ⟨w36, hx40, hR⟩ := hq
        obtain ⟨fs37, he38, hv39⟩ := gq_e hx40
        refine X_get (k := 11) C oYa fwYa_39 he38 hv39 dYa_begin_63 ?_
        have hq := o_bind hR
        clear hR
        obtain ⟨a41, rfl, hR⟩ := hq
        have hq := o_if hR
        clear hR
        obtain ⟨k126, hR⟩ := hq
        obtain ⟨fs127, he128⟩ := kc_e k126
        have hq := o_bind hR
        clear hR
        obtain ⟨r42, hr42, hR⟩ := hq
        refine X_callVk (As := []) (rest := []) C (Zo_becomeAllZero_c hr42) wYa_87 ⟨by decide, by decide⟩ ⟨by omega, by omega⟩ he128 oZo.2.1 rfl rfl (Nat.le_of_ble_eq_true rfl) dYa_begin_66 ?_
        show X F G B _ 2 (r42.2) _ _ _ _ _ []
        refine X_aload_n C dYa_begin_69 rfl ?_
        refine X_aload_n C dYa_begin_70 rfl ?_
        have hq := o_bind hR
        clear hR
        obtain ⟨w43, hx47, hR⟩ := hq
        obtain ⟨fs44, he45, hv46⟩ := gq_e hx47
        refine X_get (k := 11) C oYa fwYa_39 he45 hv46 dYa_begin_71 ?_
        have hq := o_if hR
        clear hR
        obtain ⟨k123, hR⟩ := hq
        obtain ⟨fs124, he125⟩ := kc_e k123
        have hq := o_bind hR
        clear hR
        obtain ⟨r48, hr48, hR⟩ := hq
        refine X_callVk (As := [va_rf (w43)]) (rest := []) C (Ya_confine_c hr48) wYa_90 ⟨by decide, by decide⟩ ⟨by omega, by omega⟩ he125 oYa.2.1 rfl rfl (Nat.le_of_ble_eq_true rfl) dYa_begin_74 ?_
        show X F G B _ 2 (r48.2) _ _ _ _ _ []
        refine X_aload_n C dYa_begin_77 rfl ?_
        refine X_aload_n C dYa_begin_78 rfl ?_
        have hq := o_bind hR
        clear hR
        obtain ⟨w49, hx53, hR⟩ := hq
        obtain ⟨fs50, he51, hv52⟩ := gq_e hx53
        refine X_get (k := 11) C oYa fwYa_39 he51 hv52 dYa_begin_79 ?_
        have hq := o_if hR
        clear hR
        obtain ⟨k120, hR⟩ := hq
        obtain ⟨fs121, he122⟩ := kc_e k120
        have hq := o_bind hR
        clear hR
        obtain ⟨r54, hr54, hR⟩ := hq
        refine X_callVk (As := [va_rf (w49)]) (rest := []) C (Ya_stay_c hr54) wYa_94 ⟨by decide, by decide⟩ ⟨by omega, by omega⟩ he122 oYa.2.1 rfl rfl (Nat.le_of_ble_eq_true rfl) dYa_begin_82 ?_
        show X F G B _ 2 (r54.2) _ _ _ _ _ []
        refine X_aload_n C dYa_begin_85 rfl ?_
        have hq := o_bind hR
        clear hR
        obtain ⟨w55, hx59, hR⟩ := hq
        obtain ⟨fs56, he57, hv58⟩ := gq_e hx59
        refine X_get (k := 11) C oYa fwYa_39 he57 hv58 dYa_begin_86 ?_
        have hq := o_bind hR
        clear hR
        obtain ⟨a60, rfl, hR⟩ := hq
        have hq := o_bind hR
        clear hR
        obtain ⟨u61, hx65, hR⟩ := hq
        obtain ⟨fs62, he63, hv64⟩ := gi_e hx65
        refine X_get (k := 2) C oZo fwYa_97 he63 hv64 dYa_begin_89 ?_
        refine X_if_eq (tgt := 96) C dYa_begin_92 (by decide) (fun c66 => ?_) (fun c66 => ?_)
        · rw [if_pos c66] at hR
          refine X_aload_n C dYa_begin_96 rfl ?_
          refine X_null C dYa_begin_97 ?_
          have hq := o_if hR
          clear hR
          obtain ⟨k117, hR⟩ := hq
          obtain ⟨fs118, he119⟩ := kc_e k117
          have hq := o_bind hR
          clear hR
          obtain ⟨r67, hr67, hR⟩ := hq
          have hq := o_add hR
          clear hR
          obtain ⟨R116, e115, hR⟩ := hq
          subst e115
          dsimp only at hm hs hz ⊢
          refine X_callVa (As := [.null]) (rest := []) C (Ya_newState_c hr67) wYa_100 ⟨by decide, by decide⟩ ⟨by omega, by omega⟩ he119 oYa.2.1 rfl rfl (Nat.le_of_ble_eq_true rfl) dYa_begin_98 ?_
          show X F G B _ 2 (r67.2.1) _ _ _ _ _ [va_rf (r67.1)]
          have hq := b_bnd hR
          clear hR
          obtain ⟨w68, e69, hR⟩ := hq
          rw [← e69]
          refine X_astore_nq (lv' := [(1, va_rf (w68)), (0, .ref (o))]) C dYa_begin_101 (by decide) rfl ?_
          refine X_aload_nq C dYa_begin_102 rfl ?_
          have hq := o_bind hR
          clear hR
          obtain ⟨a70, rfl, hR⟩ := hq
          have hq := o_bind hR
          clear hR
          obtain ⟨w71, hx75, hR⟩ := hq
          obtain ⟨fs72, he73, hv74⟩ := gq_e hx75
          refine X_get (k := 4) C oSt fwYa_104 he73 hv74 dYa_begin_103 ?_
          have hq := o_bind hR
          clear hR
          obtain ⟨a76, rfl, hR⟩ := hq
          have hq := o_if hR
          clear hR
          obtain ⟨k112, hR⟩ := hq
          obtain ⟨fs113, he114⟩ := kc_e k112
          have hq := o_bind hR
          clear hR
          obtain ⟨r77, hr77, hR⟩ := hq
          refine X_callVk (As := []) (rest := []) C (Zo_becomeAllZero_c hr77) wYa_87 ⟨by decide, by decide⟩ ⟨by omega, by omega⟩ he114 oZo.2.1 rfl rfl (Nat.le_of_ble_eq_true rfl) dYa_begin_106 ?_
          show X F G B _ 2 (r77.2) _ _ _ _ _ []
          refine X_aload_n C dYa_begin_109 rfl ?_
          refine X_aload_n C dYa_begin_110 rfl ?_
          have hq := o_bind hR
          clear hR
          obtain ⟨w78, hx82, hR⟩ := hq
          obtain ⟨fs79, he80, hv81⟩ := gq_e hx82
          refine X_get (k := 4) C oSt fwYa_104 he80 hv81 dYa_begin_111 ?_
          have hq := o_if hR
          clear hR
          obtain ⟨k109, hR⟩ := hq
          obtain ⟨fs110, he111⟩ := kc_e k109
          have hq := o_bind hR
          clear hR
          obtain ⟨r83, hr83, hR⟩ := hq
          refine X_callVk (As := [va_rf (w78)]) (rest := []) C (Ya_stay_c hr83) wYa_94 ⟨by decide, by decide⟩ ⟨by omega, by omega⟩ he111 oYa.2.1 rfl rfl (Nat.le_of_ble_eq_true rfl) dYa_begin_114 ?_
          show X F G B _ 2 (r83.2) _ _ _ _ _ []
          refine X_aload_n C dYa_begin_117 rfl ?_
          refine X_iconst (v := 0) C dYa_begin_118 rfl ?_
          have hq := o_bind hR
          clear hR
          obtain ⟨h84, hh85, hR⟩ := hq
          obtain ⟨fs86, he87, hl88, e89⟩ := pf_e hh85
          refine X_put (k := 10) C oSt fwYa_107 rfl he87 rfl rfl hl88 dYa_begin_119 ?_
          rw [← e89]
          refine X_aload_n C dYa_begin_122 rfl ?_
          have hq := o_if hR
          clear hR
          obtain ⟨k106, hR⟩ := hq
          obtain ⟨fs107, he108⟩ := kc_e k106
          have hq := o_bind hR
          clear hR
          obtain ⟨r90, hr90, hR⟩ := hq
          refine X_callVk (As := []) (rest := []) C (Ya_letGreatGo_c hr90) wYa_110 ⟨by decide, by decide⟩ ⟨by omega, by omega⟩ he108 oYa.2.1 rfl rfl (Nat.le_of_ble_eq_true rfl) dYa_begin_123 ?_
          show X F G B _ 2 (r90.2) _ _ _ _ _ []
          refine X_aload_n C dYa_begin_126 rfl ?_
          have hq := o_bind hR
          clear hR
          obtain ⟨w91, hx95, hR⟩ := hq
          obtain ⟨fs92, he93, hv94⟩ := gq_e hx95
          refine X_get (k := 3) C oSt fwYa_113 he93 hv94 dYa_begin_127 ?_
          refine X_aload_n C dYa_begin_130 rfl ?_
          have hq := o_bind hR
          clear hR
          obtain ⟨w96, hx100, hR⟩ := hq
          obtain ⟨fs97, he98, hv99⟩ := gq_e hx100
          refine X_get (k := 11) C oYa fwYa_39 he98 hv99 dYa_begin_131 ?_
          have hq := o_bind hR
          clear hR
          obtain ⟨a101, rfl, hR⟩ := hq
          have hq := o_if hR
          clear hR
          obtain ⟨k103, hR⟩ := hq
          obtain ⟨fs104, he105⟩ := kc_e k103
          have hq := o_bind hR
          clear hR
          obtain ⟨r102, hr102, hR⟩ := hq
          refine X_callVk (As := [va_rf (w96)]) (rest := []) C (Zo_becomeAs_c hr102) wYa_116 ⟨by decide, by decide⟩ ⟨by omega, by omega⟩ he105 oZo.2.1 rfl rfl (Nat.le_of_ble_eq_true rfl) dYa_begin_134 ?_
          show X F G B _ 2 (r102.2) _ _ _ _ _ []
          have hR := Option.some.inj hR
          subst hR
          dsimp only at hm hs hz ⊢
          exact X_vret C hr (by omega) (by omega) dYa_begin_137 ⟨rfl, rfl, by omega⟩
        · rw [if_neg c66] at hR
          have hR := Option.some.inj hR
          subst hR
          dsimp only at hm hs hz ⊢
          exact X_vret C hr (by omega) (by omega) dYa_begin_95 ⟨rfl, rfl, by omega⟩
      · rw [if_neg c35] at hR
        refine X_aload_n C dYa_begin_36 rfl ?_
        have hq := o_bind hR
        clear hR
        obtain ⟨w129, hx133, hR⟩ := hq
        obtain ⟨fs130, he131, hv132⟩ := gq_e hx133
        refine X_get (k := 10) C oYa fwYa_31 he131 hv132 dYa_begin_37 ?_
        refine X_iload_n C dYa_begin_40 rfl ?_
        refine X_iload_n C dYa_begin_41 rfl ?_
        refine X_aload_n C dYa_begin_42 rfl ?_
        have hq := o_bind hR
        clear hR
        obtain ⟨u134, hx138, hR⟩ := hq
        obtain ⟨fs135, he136, hv137⟩ := gi_e hx138
        refine X_get (k := 1) C oYa fwYa_43 he136 hv137 dYa_begin_43 ?_
        refine X_icmp_ge (tgt := 53) C dYa_begin_46 (by decide) (fun c139 => ?_) (fun c139 => ?_)
        · rw [if_pos c139] at hR
          refine X_bipush (v := (-2)) C dYa_begin_53 (by decide) ?_
          have hq := o_bind hR
          clear hR
          obtain ⟨a140, rfl, hR⟩ := hq
          have hq := o_bind hR
          clear hR
          obtain ⟨h141, hh142, hR⟩ := hq
          obtain ⟨n143, f144, he145, hi146, e147⟩ := pa_e hh142
          refine X_iast C rfl he145 hi146 dYa_begin_55 ?_
          rw [← e147]
          refine X_iinc (v := x1 + 1) (lv' := [(1, .int (x1 + 1)), (0, .ref (o))]) C dYa_begin_56 rfl rfl (by decide) rfl ?_
          refine X_goto (tgt := 31) C dYa_begin_59 (by decide) ?_
          refine X_sub (lv' := [(0, .ref (o)), (1, .int (x1 + 1))]) [1, 0] rfl ?_
          exact (ih (x1 + 1) _ _ _ _ _ _ (by omega) (by omega) (by omega)).2 hR
        · rw [if_neg c139] at hR
          refine X_iconst (v := 0) C dYa_begin_49 rfl ?_
          refine X_goto (tgt := 55) C dYa_begin_50 (by decide) ?_
          have hq := o_bind hR
          clear hR
          obtain ⟨a148, rfl, hR⟩ := hq
          have hq := o_bind hR
          clear hR
          obtain ⟨h149, hh150, hR⟩ := hq
          obtain ⟨n151, f152, he153, hi154, e155⟩ := pa_e hh150
          refine X_iast C rfl he153 hi154 dYa_begin_55 ?_
          rw [← e155]
          refine X_iinc (v := x1 + 1) (lv' := [(1, .int (x1 + 1)), (0, .ref (o))]) C dYa_begin_56 rfl rfl (by decide) rfl ?_
          refine X_goto (tgt := 31) C dYa_begin_59 (by decide) ?_
          refine X_sub (lv' := [(0, .ref (o)), (1, .int (x1 + 1))]) [1, 0] rfl ?_
          exact (ih (x1 + 1) _ _ _ _ _ _ (by omega) (by omega) (by omega)).2 hR
theorem Ya_begin_c {l : Launch} {G : xG} {B sz : Nat} {o : Nat} {n : Nat} {h : xH} {R : Int32 × xH × Nat × Nat} (hR : Ya_begin_f n 0 o 0 h sz = some R) : xCon l yYa_begin cYa_begin 2 none 4 93 R.2.2.1 R.2.2.2 G B [.ref (o)] h sz (kP none R.2.1 (sz + R.2.2.1)) := xCon.of (by decide) (by exact Nat.le_of_ble_eq_true rfl) (fun F e C hr hnm => X_sub (lv' := [(0, .ref (o))]) [0] rfl ((Ya_begin_x C hr n 0 h sz 0 0 R _ (Nat.le_of_eq (Nat.zero_add _)) (Nat.le_of_eq (Nat.zero_add _)) rfl).1 hR))
