def Lr_size_f (n : Nat) (o : Nat)  (h : xH) : Option (Int32 × xH) := obd (gq h (o) 9 0) (fun w1 => obd w1 (fun a6 => obd (al h (a6) 1) (fun u7 => some (u7, h))))
set_option maxRecDepth 100000 in
set_option maxHeartbeats 8000000 in
theorem Lr_size_x {F : xF} {G : xG} {B sz : Nat} {o : Nat} (C : xC F G B cLr_size RLr 1 0 0 0 0) (hr : (xFM F).sig.returnType = (some .int)) {n : Nat} {h : xH} {R : Int32 × xH} (hR : Lr_size_f n o  h = some R) : X F G B (xZ F G B (kP (some (.int R.1)) R.2 sz) 0 0) 1 h sz 0 0 0 [(0, .ref (o))] [] := by
  unfold Lr_size_f at hR
  refine X_aload_n C dLr_size_0 rfl ?_
  have hq := o_bind hR
  clear hR
  obtain ⟨w1, hx5, hR⟩ := hq
  obtain ⟨fs2, he3, hv4⟩ := gq_e hx5
  refine X_get (k := 0) C oLr fwLr_7 he3 hv4 dLr_size_1 ?_
  have hq := o_bind hR
  clear hR
  obtain ⟨a6, rfl, hR⟩ := hq
  have hq := o_bind hR
  clear hR
  obtain ⟨u7, hx8, hR⟩ := hq
  obtain ⟨v9, he10, e11⟩ := al_e hx8
  refine X_alen C rfl he10 e11 dLr_size_4 ?_
  rw [← Option.some.inj hR]
  exact X_iret C hr (Nat.le_refl _) (Nat.le_refl _) dLr_size_5 ⟨rfl, rfl, rfl⟩
theorem Lr_size_c {l : Launch} {G : xG} {B sz : Nat} {o : Nat} {n : Nat} {h : xH} {R : Int32 × xH} (hR : Lr_size_f n o  h = some R) : xCon l yLr_size cLr_size 1 (some .int) 0 0 0 0 G B [.ref (o)] h sz (kP (some (.int R.1)) R.2 sz) := xCon.of (by decide) (by exact Nat.le_of_ble_eq_true rfl) (fun F e C hr _ => X_sub (lv' := [(0, .ref (o))]) [0] rfl (Lr_size_x C hr hR))
def Pl_heft_f (n : Nat) (o : Nat)  (h : xH) : Option (Int32 × xH) := obd (gi h (o) 6 2) (fun u1 => some (((3 : Int32)) + (u1), h))
set_option maxRecDepth 100000 in
set_option maxHeartbeats 8000000 in
theorem Pl_heft_x {F : xF} {G : xG} {B sz : Nat} {o : Nat} (C : xC F G B cPl_heft RPl 1 0 0 0 0) (hr : (xFM F).sig.returnType = (some .int)) {n : Nat} {h : xH} {R : Int32 × xH} (hR : Pl_heft_f n o  h = some R) : X F G B (xZ F G B (kP (some (.int R.1)) R.2 sz) 0 0) 1 h sz 0 0 0 [(0, .ref (o))] [] := by
  unfold Pl_heft_f at hR
  refine X_iconst (v := 3) C dPl_heft_0 rfl ?_
  refine X_aload_n C dPl_heft_1 rfl ?_
  have hq := o_bind hR
  clear hR
  obtain ⟨u1, hx5, hR⟩ := hq
  obtain ⟨fs2, he3, hv4⟩ := gi_e hx5
  refine X_get (k := 2) C oPl fwPl_25 he3 hv4 dPl_heft_2 ?_
  refine X_iadd C dPl_heft_5 ?_
  rw [← Option.some.inj hR]
  exact X_iret C hr (Nat.le_refl _) (Nat.le_refl _) dPl_heft_6 ⟨rfl, rfl, rfl⟩
theorem Pl_heft_c {l : Launch} {G : xG} {B sz : Nat} {o : Nat} {n : Nat} {h : xH} {R : Int32 × xH} (hR : Pl_heft_f n o  h = some R) : xCon l yPl_heft cPl_heft 1 (some .int) 0 0 0 0 G B [.ref (o)] h sz (kP (some (.int R.1)) R.2 sz) := xCon.of (by decide) (by exact Nat.le_of_ble_eq_true rfl) (fun F e C hr _ => X_sub (lv' := [(0, .ref (o))]) [0] rfl (Pl_heft_x C hr hR))
def Ro_heft_f (n : Nat) (o : Nat)  (h : xH) : Option (Int32 × xH) := some (((-12) : Int32), h)
set_option maxRecDepth 100000 in
set_option maxHeartbeats 8000000 in
theorem Ro_heft_x {F : xF} {G : xG} {B sz : Nat} {o : Nat} (C : xC F G B cRo_heft RRo 1 0 0 0 0) (hr : (xFM F).sig.returnType = (some .int)) {n : Nat} {h : xH} {R : Int32 × xH} (hR : Ro_heft_f n o  h = some R) : X F G B (xZ F G B (kP (some (.int R.1)) R.2 sz) 0 0) 1 h sz 0 0 0 [(0, .ref (o))] [] := by
  unfold Ro_heft_f at hR
  refine X_bipush (v := (-12)) C dRo_heft_0 (by decide) ?_
  rw [← Option.some.inj hR]
  exact X_iret C hr (Nat.le_refl _) (Nat.le_refl _) dRo_heft_2 ⟨rfl, rfl, rfl⟩
theorem Ro_heft_c {l : Launch} {G : xG} {B sz : Nat} {o : Nat} {n : Nat} {h : xH} {R : Int32 × xH} (hR : Ro_heft_f n o  h = some R) : xCon l yRo_heft cRo_heft 1 (some .int) 0 0 0 0 G B [.ref (o)] h sz (kP (some (.int R.1)) R.2 sz) := xCon.of (by decide) (by exact Nat.le_of_ble_eq_true rfl) (fun F e C hr _ => X_sub (lv' := [(0, .ref (o))]) [0] rfl (Ro_heft_x C hr hR))
def Sr_size_f (n : Nat) (o : Nat)  (h : xH) : Option (Int32 × xH) := obd (gq h (o) 8 0) (fun w1 => obd w1 (fun a6 => obd (al h (a6) 3) (fun u7 => some (u7, h))))
set_option maxRecDepth 100000 in
set_option maxHeartbeats 8000000 in
theorem Sr_size_x {F : xF} {G : xG} {B sz : Nat} {o : Nat} (C : xC F G B cSr_size RSr 1 0 0 0 0) (hr : (xFM F).sig.returnType = (some .int)) {n : Nat} {h : xH} {R : Int32 × xH} (hR : Sr_size_f n o  h = some R) : X F G B (xZ F G B (kP (some (.int R.1)) R.2 sz) 0 0) 1 h sz 0 0 0 [(0, .ref (o))] [] := by
  unfold Sr_size_f at hR
  refine X_aload_n C dSr_size_0 rfl ?_
  have hq := o_bind hR
  clear hR
  obtain ⟨w1, hx5, hR⟩ := hq
  obtain ⟨fs2, he3, hv4⟩ := gq_e hx5
  refine X_get (k := 0) C oSr fwSr_7 he3 hv4 dSr_size_1 ?_
  have hq := o_bind hR
  clear hR
  obtain ⟨a6, rfl, hR⟩ := hq
  have hq := o_bind hR
  clear hR
  obtain ⟨u7, hx8, hR⟩ := hq
  obtain ⟨v9, he10, e11⟩ := al_e hx8
  refine X_alen C rfl he10 e11 dSr_size_4 ?_
  rw [← Option.some.inj hR]
  exact X_iret C hr (Nat.le_refl _) (Nat.le_refl _) dSr_size_5 ⟨rfl, rfl, rfl⟩
theorem Sr_size_c {l : Launch} {G : xG} {B sz : Nat} {o : Nat} {n : Nat} {h : xH} {R : Int32 × xH} (hR : Sr_size_f n o  h = some R) : xCon l ySr_size cSr_size 1 (some .int) 0 0 0 0 G B [.ref (o)] h sz (kP (some (.int R.1)) R.2 sz) := xCon.of (by decide) (by exact Nat.le_of_ble_eq_true rfl) (fun F e C hr _ => X_sub (lv' := [(0, .ref (o))]) [0] rfl (Sr_size_x C hr hR))
def St_fits_f (n : Nat) (o : Nat) (x1 : Int32) (x2 : Int32) (h : xH) : Option (Int32 × xH) := (if x2 = ((-1) : Int32) then some ((1 : Int32), h) else (if x1 < 0 then some ((0 : Int32), h) else obd (gq h (o) 2 1) (fun w3 => obd w3 (fun a8 => obd (al h (a8) 0) (fun u9 => (if u9 ≤ x1 then some ((0 : Int32), h) else obd (gq h (o) 2 1) (fun w15 => obd w15 (fun a20 => obd (ai h (a20) 0 (x1)) (fun u21 => (if u21 = x2 then some ((1 : Int32), h) else some ((0 : Int32), h)))))))))))
set_option maxRecDepth 100000 in
set_option maxHeartbeats 8000000 in
theorem St_fits_x {F : xF} {G : xG} {B sz : Nat} {o : Nat} (C : xC F G B cSt_fits RSt 3 0 0 0 0) (hr : (xFM F).sig.returnType = (some .boolean)) {n : Nat} {x1 : Int32} {x2 : Int32} {h : xH} {R : Int32 × xH} (hR : St_fits_f n o x1 x2 h = some R) : X F G B (xZ F G B (kP (some (.int R.1)) R.2 sz) 0 0) 3 h sz 0 0 0 [(0, .ref (o)), (1, .int (x1)), (2, .int (x2))] [] := by
  unfold St_fits_f at hR
  refine X_iload_n C dSt_fits_0 rfl ?_
  refine X_iconst (v := (-1)) C dSt_fits_1 rfl ?_
  refine X_icmp_eq (tgt := 28) C dSt_fits_2 (by decide) (fun c1 => ?_) (fun c1 => ?_)
  · rw [if_pos c1] at hR
    refine X_iconst (v := 1) C dSt_fits_28 rfl ?_
    refine X_goto (tgt := 33) C dSt_fits_29 (by decide) ?_
    rw [← Option.some.inj hR]
    exact X_zret C hr rfl (Nat.le_refl _) (Nat.le_refl _) dSt_fits_33 ⟨rfl, rfl, rfl⟩
  · rw [if_neg c1] at hR
    refine X_iload_n C dSt_fits_5 rfl ?_
    refine X_if_lt (tgt := 32) C dSt_fits_6 (by decide) (fun c2 => ?_) (fun c2 => ?_)
    · rw [if_pos c2] at hR
      refine X_iconst (v := 0) C dSt_fits_32 rfl ?_
      rw [← Option.some.inj hR]
      exact X_zret C hr rfl (Nat.le_refl _) (Nat.le_refl _) dSt_fits_33 ⟨rfl, rfl, rfl⟩
    · rw [if_neg c2] at hR
      refine X_iload_n C dSt_fits_9 rfl ?_
      refine X_aload_n C dSt_fits_10 rfl ?_
      have hq := o_bind hR
      clear hR
      obtain ⟨w3, hx7, hR⟩ := hq
      obtain ⟨fs4, he5, hv6⟩ := gq_e hx7
      refine X_get (k := 1) C oSt fwSt_9 he5 hv6 dSt_fits_11 ?_
      have hq := o_bind hR
      clear hR
      obtain ⟨a8, rfl, hR⟩ := hq
      have hq := o_bind hR
      clear hR
      obtain ⟨u9, hx10, hR⟩ := hq
      obtain ⟨v11, he12, e13⟩ := al_e hx10
      refine X_alen C rfl he12 e13 dSt_fits_14 ?_
      refine X_icmp_ge (tgt := 32) C dSt_fits_15 (by decide) (fun c14 => ?_) (fun c14 => ?_)
      · rw [if_pos c14] at hR
        refine X_iconst (v := 0) C dSt_fits_32 rfl ?_
        rw [← Option.some.inj hR]
        exact X_zret C hr rfl (Nat.le_refl _) (Nat.le_refl _) dSt_fits_33 ⟨rfl, rfl, rfl⟩
      · rw [if_neg c14] at hR
        refine X_aload_n C dSt_fits_18 rfl ?_
        have hq := o_bind hR
        clear hR
        obtain ⟨w15, hx19, hR⟩ := hq
        obtain ⟨fs16, he17, hv18⟩ := gq_e hx19
        refine X_get (k := 1) C oSt fwSt_9 he17 hv18 dSt_fits_19 ?_
        refine X_iload_n C dSt_fits_22 rfl ?_
        have hq := o_bind hR
        clear hR
        obtain ⟨a20, rfl, hR⟩ := hq
        have hq := o_bind hR
        clear hR
        obtain ⟨u21, hx22, hR⟩ := hq
        obtain ⟨n23, f24, he25, hi26, e27⟩ := ai_e hx22
        refine X_iald C rfl he25 hi26 dSt_fits_23 ?_
        rw [← e27]
        refine X_iload_n C dSt_fits_24 rfl ?_
        refine X_icmp_ne (tgt := 32) C dSt_fits_25 (by decide) (fun c28 => ?_) (fun c28 => ?_)
        · rw [if_neg c28] at hR
          refine X_iconst (v := 0) C dSt_fits_32 rfl ?_
          rw [← Option.some.inj hR]
          exact X_zret C hr rfl (Nat.le_refl _) (Nat.le_refl _) dSt_fits_33 ⟨rfl, rfl, rfl⟩
        · rw [if_pos c28] at hR
          refine X_iconst (v := 1) C dSt_fits_28 rfl ?_
          refine X_goto (tgt := 33) C dSt_fits_29 (by decide) ?_
          rw [← Option.some.inj hR]
          exact X_zret C hr rfl (Nat.le_refl _) (Nat.le_refl _) dSt_fits_33 ⟨rfl, rfl, rfl⟩
theorem St_fits_c {l : Launch} {G : xG} {B sz : Nat} {o : Nat} {n : Nat} {x1 : Int32} {x2 : Int32} {h : xH} {R : Int32 × xH} (hR : St_fits_f n o x1 x2 h = some R) : xCon l ySt_fits cSt_fits 3 (some .boolean) 0 0 0 0 G B [.ref (o), .int (x1), .int (x2)] h sz (kP (some (.int R.1)) R.2 sz) := xCon.of (by decide) (by exact Nat.le_of_ble_eq_true rfl) (fun F e C hr _ => X_sub (lv' := [(0, .ref (o)), (1, .int (x1)), (2, .int (x2))]) [0, 1, 2] rfl (St_fits_x C hr hR))
def St_standsAt_t0 (f : Nat → Option Nat → Int32 → xH → Option (Int32 × xH)) (n : Nat) (o : Nat) (y1 : Option Nat) (x2 : Int32) (h : xH) : Option (Int32 × xH) := f 2 (y1) ((0 : Int32)) h
def St_standsAt_t2 (f : Nat → Option Nat → Int32 → xH → Option (Int32 × xH)) (n : Nat) (o : Nat) (y1 : Option Nat) (x2 : Int32) (h : xH) : Option (Int32 × xH) := obd (gq h (o) 2 1) (fun w1 => obd w1 (fun a6 => obd (al h (a6) 0) (fun u7 => (if u7 ≤ x2 then some ((1 : Int32), h) else obd y1 (fun a13 => obd (al h (a13) 0) (fun u14 => (if u14 ≤ x2 then some ((0 : Int32), h) else obd (gq h (o) 2 1) (fun w20 => obd w20 (fun a25 => obd (ai h (a25) 0 (x2)) (fun u26 => obd (ai h (a13) 0 (x2)) (fun u33 => (if u26 = u33 then f 2 (some (a13)) (x2 + 1) h else some ((0 : Int32), h)))))))))))))
def St_standsAt_f : Nat → Nat → Nat → Option Nat → Int32 → xH → Option (Int32 × xH)
  | 0 => fun _ _ _ _ _ => none
  | n + 1 => fun p o y1 x2 h => if p = 0 then St_standsAt_t0 (fun p y1 x2 h => St_standsAt_f n p o y1 x2 h) n o y1 x2 h else if p = 2 then St_standsAt_t2 (fun p y1 x2 h => St_standsAt_f n p o y1 x2 h) n o y1 x2 h else none
theorem St_standsAt_e0 (n : Nat) (o : Nat) (y1 : Option Nat) (x2 : Int32) (h : xH) : St_standsAt_f (n + 1) 0 o y1 x2 h = St_standsAt_t0 (fun p y1 x2 h => St_standsAt_f n p o y1 x2 h) n o y1 x2 h := by
  show (if 0 = 0 then St_standsAt_t0 (fun p y1 x2 h => St_standsAt_f n p o y1 x2 h) n o y1 x2 h else if 0 = 2 then St_standsAt_t2 (fun p y1 x2 h => St_standsAt_f n p o y1 x2 h) n o y1 x2 h else none) = _
  rw [if_pos rfl]
theorem St_standsAt_e2 (n : Nat) (o : Nat) (y1 : Option Nat) (x2 : Int32) (h : xH) : St_standsAt_f (n + 1) 2 o y1 x2 h = St_standsAt_t2 (fun p y1 x2 h => St_standsAt_f n p o y1 x2 h) n o y1 x2 h := by
  show (if 2 = 0 then St_standsAt_t0 (fun p y1 x2 h => St_standsAt_f n p o y1 x2 h) n o y1 x2 h else if 2 = 2 then St_standsAt_t2 (fun p y1 x2 h => St_standsAt_f n p o y1 x2 h) n o y1 x2 h else none) = _
  rw [if_neg (by decide), if_pos rfl]
set_option maxRecDepth 100000 in
set_option maxHeartbeats 8000000 in
theorem St_standsAt_x {F : xF} {G : xG} {B sz : Nat} {o : Nat} (C : xC F G B cSt_standsAt RSt 3 0 0 0 0) (hr : (xFM F).sig.returnType = (some .boolean)) : ∀ (n : Nat) (y1 : Option Nat) (x2 : Int32) (h : xH) (R : Int32 × xH), (St_standsAt_f n 0 o y1 x2 h = some R → X F G B (xZ F G B (kP (some (.int R.1)) R.2 sz) 0 0) 3 h sz 0 0 0 [(0, .ref (o)), (1, va_rf (y1))] []) ∧ (St_standsAt_f n 2 o y1 x2 h = some R → X F G B (xZ F G B (kP (some (.int R.1)) R.2 sz) 0 0) 3 h sz 0 0 2 [(0, .ref (o)), (1, va_rf (y1)), (2, .int (x2))] []) := by
  intro n
  induction n with
  | zero => exact fun _ _ _ _ => ⟨(fun hR => nomatch (show (none : Option _) = some _ from hR)), (fun hR => nomatch (show (none : Option _) = some _ from hR))⟩
  | succ n ih =>
    intro y1 x2 h R
    refine ⟨fun hR => ?_, fun hR => ?_⟩
    · rw [St_standsAt_e0] at hR
      unfold St_standsAt_t0 at hR
      refine X_iconst (v := 0) C dSt_standsAt_0 rfl ?_
      refine X_istore_n (lv' := [(2, .int ((0 : Int32))), (0, .ref (o)), (1, va_rf (y1))]) C dSt_standsAt_1 (by decide) (by simp [rf_cat, cat_i, cat_r, cat_l, rf_n, rf_s] <;> decide) ?_
      refine X_sub (lv' := [(0, .ref (o)), (1, va_rf ((y1))), (2, .int ((0 : Int32)))]) [1, 2, 0] rfl ?_
      exact (ih (y1) ((0 : Int32)) _ _).2 hR
    · rw [St_standsAt_e2] at hR
      unfold St_standsAt_t2 at hR
      refine X_iload_n C dSt_standsAt_2 rfl ?_
      refine X_aload_n C dSt_standsAt_3 rfl ?_
      have hq := o_bind hR
      clear hR
      obtain ⟨w1, hx5, hR⟩ := hq
      obtain ⟨fs2, he3, hv4⟩ := gq_e hx5
      refine X_get (k := 1) C oSt fwSt_9 he3 hv4 dSt_standsAt_4 ?_
      have hq := o_bind hR
      clear hR
      obtain ⟨a6, rfl, hR⟩ := hq
      have hq := o_bind hR
      clear hR
      obtain ⟨u7, hx8, hR⟩ := hq
      obtain ⟨v9, he10, e11⟩ := al_e hx8
      refine X_alen C rfl he10 e11 dSt_standsAt_7 ?_
      refine X_icmp_ge (tgt := 37) C dSt_standsAt_8 (by decide) (fun c12 => ?_) (fun c12 => ?_)
      · rw [if_pos c12] at hR
        refine X_iconst (v := 1) C dSt_standsAt_37 rfl ?_
        rw [← Option.some.inj hR]
        exact X_zret C hr rfl (Nat.le_refl _) (Nat.le_refl _) dSt_standsAt_38 ⟨rfl, rfl, rfl⟩
      · rw [if_neg c12] at hR
        refine X_iload_n C dSt_standsAt_11 rfl ?_
        refine X_aload_nq C dSt_standsAt_12 rfl ?_
        have hq := o_bind hR
        clear hR
        obtain ⟨a13, rfl, hR⟩ := hq
        have hq := o_bind hR
        clear hR
        obtain ⟨u14, hx15, hR⟩ := hq
        obtain ⟨v16, he17, e18⟩ := al_e hx15
        refine X_alen C rfl he17 e18 dSt_standsAt_13 ?_
        refine X_icmp_ge (tgt := 29) C dSt_standsAt_14 (by decide) (fun c19 => ?_) (fun c19 => ?_)
        · rw [if_pos c19] at hR
          refine X_iconst (v := 0) C dSt_standsAt_29 rfl ?_
          rw [← Option.some.inj hR]
          exact X_zret C hr rfl (Nat.le_refl _) (Nat.le_refl _) dSt_standsAt_30 ⟨rfl, rfl, rfl⟩
        · rw [if_neg c19] at hR
          refine X_aload_n C dSt_standsAt_17 rfl ?_
          have hq := o_bind hR
          clear hR
          obtain ⟨w20, hx24, hR⟩ := hq
          obtain ⟨fs21, he22, hv23⟩ := gq_e hx24
          refine X_get (k := 1) C oSt fwSt_9 he22 hv23 dSt_standsAt_18 ?_
          refine X_iload_n C dSt_standsAt_21 rfl ?_
          have hq := o_bind hR
          clear hR
          obtain ⟨a25, rfl, hR⟩ := hq
          have hq := o_bind hR
          clear hR
          obtain ⟨u26, hx27, hR⟩ := hq
          obtain ⟨n28, f29, he30, hi31, e32⟩ := ai_e hx27
          refine X_iald C rfl he30 hi31 dSt_standsAt_22 ?_
          rw [← e32]
          refine X_aload_n C dSt_standsAt_23 rfl ?_
          refine X_iload_n C dSt_standsAt_24 rfl ?_
          have hq := o_bind hR
          clear hR
          obtain ⟨u33, hx34, hR⟩ := hq
          obtain ⟨n35, f36, he37, hi38, e39⟩ := ai_e hx34
          refine X_iald C rfl he37 hi38 dSt_standsAt_25 ?_
          rw [← e39]
          refine X_icmp_eq (tgt := 31) C dSt_standsAt_26 (by decide) (fun c40 => ?_) (fun c40 => ?_)
          · rw [if_pos c40] at hR
            refine X_iinc (v := x2 + 1) (lv' := [(2, .int (x2 + 1)), (0, .ref (o)), (1, .ref (a13))]) C dSt_standsAt_31 rfl rfl (by decide) rfl ?_
            refine X_goto (tgt := 2) C dSt_standsAt_34 (by decide) ?_
            refine X_sub (lv' := [(0, .ref (o)), (1, va_rf ((some (a13)))), (2, .int (x2 + 1))]) [1, 2, 0] rfl ?_
            exact (ih (some (a13)) (x2 + 1) _ _).2 hR
          · rw [if_neg c40] at hR
            refine X_iconst (v := 0) C dSt_standsAt_29 rfl ?_
            rw [← Option.some.inj hR]
            exact X_zret C hr rfl (Nat.le_refl _) (Nat.le_refl _) dSt_standsAt_30 ⟨rfl, rfl, rfl⟩
theorem St_standsAt_c {l : Launch} {G : xG} {B sz : Nat} {o : Nat} {n : Nat} {y1 : Option Nat} {h : xH} {R : Int32 × xH} (hR : St_standsAt_f n 0 o y1 0 h = some R) : xCon l ySt_standsAt cSt_standsAt 3 (some .boolean) 0 0 0 0 G B [.ref (o), va_rf (y1)] h sz (kP (some (.int R.1)) R.2 sz) := xCon.of (by decide) (by simp [lg_sl, rf_cat, cat_i, cat_r, cat_l]) (fun F e C hr _ => X_sub (lv' := [(0, .ref (o)), (1, va_rf (y1))]) [0, 1] (by simp [lv_args, lv_pick, rf_cat, cat_i, cat_r, cat_l]) ((St_standsAt_x C hr n y1 0 h R).1 hR))
def St_comeFrom_f (n : Nat) (o : Nat) (y1 : Option Nat) (h : xH) : Option (Int32 × xH) := oel (y1) (obd (pf h (o) 2 5 (.int (((-2) : Int32)))) (fun h3 => obd (pf h3 (o) 2 9 (.int ((0 : Int32)))) (fun h9 => obd (pf h9 (o) 2 6 (.int ((0 : Int32)))) (fun h15 => obd (pf h15 (o) 2 7 (.int ((0 : Int32)))) (fun h21 => obd (pf h21 (o) 2 8 (.int ((0 : Int32)))) (fun h27 => some (0, h27))))))) (fun a1 => obd (gi h (a1) 2 0) (fun u33 => obd (pf h (o) 2 5 (.int (u33))) (fun h38 => obd (gi h38 (a1) 2 9) (fun u44 => obd (pf h38 (o) 2 9 (.int ((u44) + ((1 : Int32))))) (fun h49 => obd (pf h49 (o) 2 6 (.int ((0 : Int32)))) (fun h55 => obd (pf h55 (o) 2 7 (.int ((0 : Int32)))) (fun h61 => obd (pf h61 (o) 2 8 (.int ((0 : Int32)))) (fun h67 => some (0, h67)))))))))
set_option maxRecDepth 100000 in
set_option maxHeartbeats 8000000 in
theorem St_comeFrom_x {F : xF} {G : xG} {B sz : Nat} {o : Nat} (C : xC F G B cSt_comeFrom RSt 2 0 0 0 0) (hr : (xFM F).sig.returnType = none) {n : Nat} {y1 : Option Nat} {h : xH} {R : Int32 × xH} (hR : St_comeFrom_f n o y1 h = some R) : X F G B (xZ F G B (kP none R.2 sz) 0 0) 2 h sz 0 0 0 [(0, .ref (o)), (1, va_rf (y1))] [] := by
  unfold St_comeFrom_f at hR
  refine X_aload_n C dSt_comeFrom_0 rfl ?_
  refine X_aload_nq C dSt_comeFrom_1 rfl ?_
  refine X_ifnonnullq (tgt := 10) C dSt_comeFrom_2 (by decide) (fun a1 e2 => ?_) (fun e2 => ?_)
  · subst e2
    rw [oel_s] at hR
    refine X_aload_n C dSt_comeFrom_10 rfl ?_
    have hq := o_bind hR
    clear hR
    obtain ⟨u33, hx37, hR⟩ := hq
    obtain ⟨fs34, he35, hv36⟩ := gi_e hx37
    refine X_get (k := 0) C oSt fwSt_30 he35 hv36 dSt_comeFrom_11 ?_
    have hq := o_bind hR
    clear hR
    obtain ⟨h38, hh39, hR⟩ := hq
    obtain ⟨fs40, he41, hl42, e43⟩ := pf_e hh39
    refine X_put (k := 5) C oSt fwSt_34 rfl he41 rfl rfl hl42 dSt_comeFrom_14 ?_
    rw [← e43]
    refine X_aload_n C dSt_comeFrom_17 rfl ?_
    refine X_aload_n C dSt_comeFrom_18 rfl ?_
    refine X_ifnonnull (tgt := 26) C dSt_comeFrom_19 (by decide) ?_
    refine X_aload_n C dSt_comeFrom_26 rfl ?_
    have hq := o_bind hR
    clear hR
    obtain ⟨u44, hx48, hR⟩ := hq
    obtain ⟨fs45, he46, hv47⟩ := gi_e hx48
    refine X_get (k := 9) C oSt fwSt_37 he46 hv47 dSt_comeFrom_27 ?_
    refine X_iconst (v := 1) C dSt_comeFrom_30 rfl ?_
    refine X_iadd C dSt_comeFrom_31 ?_
    have hq := o_bind hR
    clear hR
    obtain ⟨h49, hh50, hR⟩ := hq
    obtain ⟨fs51, he52, hl53, e54⟩ := pf_e hh50
    refine X_put (k := 9) C oSt fwSt_37 rfl he52 rfl rfl hl53 dSt_comeFrom_32 ?_
    rw [← e54]
    refine X_aload_n C dSt_comeFrom_35 rfl ?_
    refine X_iconst (v := 0) C dSt_comeFrom_36 rfl ?_
    have hq := o_bind hR
    clear hR
    obtain ⟨h55, hh56, hR⟩ := hq
    obtain ⟨fs57, he58, hl59, e60⟩ := pf_e hh56
    refine X_put (k := 6) C oSt fwSt_40 rfl he58 rfl rfl hl59 dSt_comeFrom_37 ?_
    rw [← e60]
    refine X_aload_n C dSt_comeFrom_40 rfl ?_
    refine X_iconst (v := 0) C dSt_comeFrom_41 rfl ?_
    have hq := o_bind hR
    clear hR
    obtain ⟨h61, hh62, hR⟩ := hq
    obtain ⟨fs63, he64, hl65, e66⟩ := pf_e hh62
    refine X_put (k := 7) C oSt fwSt_43 rfl he64 rfl rfl hl65 dSt_comeFrom_42 ?_
    rw [← e66]
    refine X_aload_n C dSt_comeFrom_45 rfl ?_
    refine X_iconst (v := 0) C dSt_comeFrom_46 rfl ?_
    have hq := o_bind hR
    clear hR
    obtain ⟨h67, hh68, hR⟩ := hq
    obtain ⟨fs69, he70, hl71, e72⟩ := pf_e hh68
    refine X_put (k := 8) C oSt fwSt_46 rfl he70 rfl rfl hl71 dSt_comeFrom_47 ?_
    rw [← e72]
    rw [← Option.some.inj hR]
    exact X_vret C hr (Nat.le_refl _) (Nat.le_refl _) dSt_comeFrom_50 ⟨rfl, rfl, rfl⟩
  · subst e2
    rw [oel_n] at hR
    refine X_bipush (v := (-2)) C dSt_comeFrom_5 (by decide) ?_
    refine X_goto (tgt := 14) C dSt_comeFrom_7 (by decide) ?_
    have hq := o_bind hR
    clear hR
    obtain ⟨h3, hh4, hR⟩ := hq
    obtain ⟨fs5, he6, hl7, e8⟩ := pf_e hh4
    refine X_put (k := 5) C oSt fwSt_34 rfl he6 rfl rfl hl7 dSt_comeFrom_14 ?_
    rw [← e8]
    refine X_aload_n C dSt_comeFrom_17 rfl ?_
    refine X_aload_nN C dSt_comeFrom_18 rfl ?_
    refine X_ifnonnullN C dSt_comeFrom_19 ?_
    refine X_iconst (v := 0) C dSt_comeFrom_22 rfl ?_
    refine X_goto (tgt := 32) C dSt_comeFrom_23 (by decide) ?_
    have hq := o_bind hR
    clear hR
    obtain ⟨h9, hh10, hR⟩ := hq
    obtain ⟨fs11, he12, hl13, e14⟩ := pf_e hh10
    refine X_put (k := 9) C oSt fwSt_37 rfl he12 rfl rfl hl13 dSt_comeFrom_32 ?_
    rw [← e14]
    refine X_aload_n C dSt_comeFrom_35 rfl ?_
    refine X_iconst (v := 0) C dSt_comeFrom_36 rfl ?_
    have hq := o_bind hR
    clear hR
    obtain ⟨h15, hh16, hR⟩ := hq
    obtain ⟨fs17, he18, hl19, e20⟩ := pf_e hh16
    refine X_put (k := 6) C oSt fwSt_40 rfl he18 rfl rfl hl19 dSt_comeFrom_37 ?_
    rw [← e20]
    refine X_aload_n C dSt_comeFrom_40 rfl ?_
    refine X_iconst (v := 0) C dSt_comeFrom_41 rfl ?_
    have hq := o_bind hR
    clear hR
    obtain ⟨h21, hh22, hR⟩ := hq
    obtain ⟨fs23, he24, hl25, e26⟩ := pf_e hh22
    refine X_put (k := 7) C oSt fwSt_43 rfl he24 rfl rfl hl25 dSt_comeFrom_42 ?_
    rw [← e26]
    refine X_aload_n C dSt_comeFrom_45 rfl ?_
    refine X_iconst (v := 0) C dSt_comeFrom_46 rfl ?_
    have hq := o_bind hR
    clear hR
    obtain ⟨h27, hh28, hR⟩ := hq
    obtain ⟨fs29, he30, hl31, e32⟩ := pf_e hh28
    refine X_put (k := 8) C oSt fwSt_46 rfl he30 rfl rfl hl31 dSt_comeFrom_47 ?_
    rw [← e32]
    rw [← Option.some.inj hR]
    exact X_vret C hr (Nat.le_refl _) (Nat.le_refl _) dSt_comeFrom_50 ⟨rfl, rfl, rfl⟩
theorem St_comeFrom_c {l : Launch} {G : xG} {B sz : Nat} {o : Nat} {n : Nat} {y1 : Option Nat} {h : xH} {R : Int32 × xH} (hR : St_comeFrom_f n o y1 h = some R) : xCon l ySt_comeFrom cSt_comeFrom 2 none 0 0 0 0 G B [.ref (o), va_rf (y1)] h sz (kP none R.2 sz) := xCon.of (by decide) (by simp [lg_sl, rf_cat, cat_i, cat_r, cat_l]) (fun F e C hr _ => X_sub (lv' := [(0, .ref (o)), (1, va_rf (y1))]) [0, 1] (by simp [lv_args, lv_pick, rf_cat, cat_i, cat_r, cat_l]) (St_comeFrom_x C hr hR))
def Wa_heft_f (n : Nat) (o : Nat)  (h : xH) : Option (Int32 × xH) := obd (gi h (o) 7 6) (fun u1 => obd (gi h (o) 7 2) (fun u6 => (if u6 = 0 then some (((10 : Int32)) + (u1), h) else obd (gi h (o) 7 2) (fun u12 => (if u12 ≤ 0 then some (((2 : Int32)) * ((((10 : Int32)) + (u1)) + ((100 : Int32))), h) else some ((((10 : Int32)) + (u1)) + ((100 : Int32)), h))))))
set_option maxRecDepth 100000 in
set_option maxHeartbeats 8000000 in
theorem Wa_heft_x {F : xF} {G : xG} {B sz : Nat} {o : Nat} (C : xC F G B cWa_heft RWa 2 0 0 0 0) (hr : (xFM F).sig.returnType = (some .int)) {n : Nat} {h : xH} {R : Int32 × xH} (hR : Wa_heft_f n o  h = some R) : X F G B (xZ F G B (kP (some (.int R.1)) R.2 sz) 0 0) 2 h sz 0 0 0 [(0, .ref (o))] [] := by
  unfold Wa_heft_f at hR
  refine X_bipush (v := 10) C dWa_heft_0 (by decide) ?_
  refine X_aload_n C dWa_heft_2 rfl ?_
  have hq := o_bind hR
  clear hR
  obtain ⟨u1, hx5, hR⟩ := hq
  obtain ⟨fs2, he3, hv4⟩ := gi_e hx5
  refine X_get (k := 6) C oWa fwWa_40 he3 hv4 dWa_heft_3 ?_
  refine X_iadd C dWa_heft_6 ?_
  refine X_istore_n (lv' := [(1, .int (((10 : Int32)) + (u1))), (0, .ref (o))]) C dWa_heft_7 (by decide) rfl ?_
  refine X_aload_n C dWa_heft_8 rfl ?_
  have hq := o_bind hR
  clear hR
  obtain ⟨u6, hx10, hR⟩ := hq
  obtain ⟨fs7, he8, hv9⟩ := gi_e hx10
  refine X_get (k := 2) C oWa fwWa_25 he8 hv9 dWa_heft_9 ?_
  refine X_if_ne (tgt := 17) C dWa_heft_12 (by decide) (fun c11 => ?_) (fun c11 => ?_)
  · rw [if_neg c11] at hR
    refine X_aload_n C dWa_heft_17 rfl ?_
    have hq := o_bind hR
    clear hR
    obtain ⟨u12, hx16, hR⟩ := hq
    obtain ⟨fs13, he14, hv15⟩ := gi_e hx16
    refine X_get (k := 2) C oWa fwWa_25 he14 hv15 dWa_heft_18 ?_
    refine X_if_le (tgt := 31) C dWa_heft_21 (by decide) (fun c17 => ?_) (fun c17 => ?_)
    · rw [if_pos c17] at hR
      refine X_iconst (v := 2) C dWa_heft_31 rfl ?_
      refine X_iload_n C dWa_heft_32 rfl ?_
      refine X_bipush (v := 100) C dWa_heft_33 (by decide) ?_
      refine X_iadd C dWa_heft_35 ?_
      refine X_imul C dWa_heft_36 ?_
      rw [← Option.some.inj hR]
      exact X_iret C hr (Nat.le_refl _) (Nat.le_refl _) dWa_heft_37 ⟨rfl, rfl, rfl⟩
    · rw [if_neg c17] at hR
      refine X_iload_n C dWa_heft_24 rfl ?_
      refine X_bipush (v := 100) C dWa_heft_25 (by decide) ?_
      refine X_iadd C dWa_heft_27 ?_
      refine X_goto (tgt := 37) C dWa_heft_28 (by decide) ?_
      rw [← Option.some.inj hR]
      exact X_iret C hr (Nat.le_refl _) (Nat.le_refl _) dWa_heft_37 ⟨rfl, rfl, rfl⟩
  · rw [if_pos c11] at hR
    refine X_iload_n C dWa_heft_15 rfl ?_
    rw [← Option.some.inj hR]
    exact X_iret C hr (Nat.le_refl _) (Nat.le_refl _) dWa_heft_16 ⟨rfl, rfl, rfl⟩
theorem Wa_heft_c {l : Launch} {G : xG} {B sz : Nat} {o : Nat} {n : Nat} {h : xH} {R : Int32 × xH} (hR : Wa_heft_f n o  h = some R) : xCon l yWa_heft cWa_heft 2 (some .int) 0 0 0 0 G B [.ref (o)] h sz (kP (some (.int R.1)) R.2 sz) := xCon.of (by decide) (by exact Nat.le_of_ble_eq_true rfl) (fun F e C hr _ => X_sub (lv' := [(0, .ref (o))]) [0] rfl (Wa_heft_x C hr hR))
def Ya_machineAt_f (n : Nat) (o : Nat) (x1 : Int32) (h : xH) : Option (Option Nat × xH) := (if x1 < 0 then some (none, h) else obd (gi h (o) 3 1) (fun u2 => (if u2 ≤ x1 then some (none, h) else (if (3 : Int32) ≤ x1 then some (none, h) else obd (gq h (o) 3 0) (fun w9 => obd w9 (fun a14 => obd (aq h (a14) 6 (x1)) (fun w15 => some ((w15), h))))))))
set_option maxRecDepth 100000 in
set_option maxHeartbeats 8000000 in
theorem Ya_machineAt_x {F : xF} {G : xG} {B sz : Nat} {o : Nat} (C : xC F G B cYa_machineAt RYa 2 0 0 0 0) (hr : (xFM F).sig.returnType = (some (.object "TimedYard$Machine"))) {n : Nat} {x1 : Int32} {h : xH} {R : Option Nat × xH} (hR : Ya_machineAt_f n o x1 h = some R) : X F G B (xZ F G B (kP (some (va_rf R.1)) R.2 sz) 0 0) 2 h sz 0 0 0 [(0, .ref (o)), (1, .int (x1))] [] := by
  unfold Ya_machineAt_f at hR
  refine X_iload_n C dYa_machineAt_0 rfl ?_
  refine X_if_lt (tgt := 26) C dYa_machineAt_1 (by decide) (fun c1 => ?_) (fun c1 => ?_)
  · rw [if_pos c1] at hR
    refine X_null C dYa_machineAt_26 ?_
    rw [← Option.some.inj hR]
    exact X_aret C hr (Or.inl ⟨_, rfl⟩) (Or.inl rfl) (Nat.le_refl _) (Nat.le_refl _) dYa_machineAt_27 ⟨rfl, rfl, rfl⟩
  · rw [if_neg c1] at hR
    refine X_iload_n C dYa_machineAt_4 rfl ?_
    refine X_aload_n C dYa_machineAt_5 rfl ?_
    have hq := o_bind hR
    clear hR
    obtain ⟨u2, hx6, hR⟩ := hq
    obtain ⟨fs3, he4, hv5⟩ := gi_e hx6
    refine X_get (k := 1) C oYa fwYa_43 he4 hv5 dYa_machineAt_6 ?_
    refine X_icmp_ge (tgt := 26) C dYa_machineAt_9 (by decide) (fun c7 => ?_) (fun c7 => ?_)
    · rw [if_pos c7] at hR
      refine X_null C dYa_machineAt_26 ?_
      rw [← Option.some.inj hR]
      exact X_aret C hr (Or.inl ⟨_, rfl⟩) (Or.inl rfl) (Nat.le_refl _) (Nat.le_refl _) dYa_machineAt_27 ⟨rfl, rfl, rfl⟩
    · rw [if_neg c7] at hR
      refine X_iload_n C dYa_machineAt_12 rfl ?_
      refine X_iconst (v := 3) C dYa_machineAt_13 rfl ?_
      refine X_icmp_ge (tgt := 26) C dYa_machineAt_14 (by decide) (fun c8 => ?_) (fun c8 => ?_)
      · rw [if_pos c8] at hR
        refine X_null C dYa_machineAt_26 ?_
        rw [← Option.some.inj hR]
        exact X_aret C hr (Or.inl ⟨_, rfl⟩) (Or.inl rfl) (Nat.le_refl _) (Nat.le_refl _) dYa_machineAt_27 ⟨rfl, rfl, rfl⟩
      · rw [if_neg c8] at hR
        refine X_aload_n C dYa_machineAt_17 rfl ?_
        have hq := o_bind hR
        clear hR
        obtain ⟨w9, hx13, hR⟩ := hq
        obtain ⟨fs10, he11, hv12⟩ := gq_e hx13
        refine X_get (k := 0) C oYa fwYa_11 he11 hv12 dYa_machineAt_18 ?_
        refine X_iload_n C dYa_machineAt_21 rfl ?_
        have hq := o_bind hR
        clear hR
        obtain ⟨a14, rfl, hR⟩ := hq
        have hq := o_bind hR
        clear hR
        obtain ⟨w15, hx16, hR⟩ := hq
        obtain ⟨n17, f18, he19, hi20, e21⟩ := aq_e hx16
        refine X_aald C rfl he19 hi20 dYa_machineAt_22 ?_
        rw [← e21]
        refine X_goto (tgt := 27) C dYa_machineAt_23 (by decide) ?_
        rw [← Option.some.inj hR]
        exact X_aret C hr (Or.inl ⟨_, rfl⟩) (rf_or _) (Nat.le_refl _) (Nat.le_refl _) dYa_machineAt_27 ⟨rfl, rfl, rfl⟩
theorem Ya_machineAt_c {l : Launch} {G : xG} {B sz : Nat} {o : Nat} {n : Nat} {x1 : Int32} {h : xH} {R : Option Nat × xH} (hR : Ya_machineAt_f n o x1 h = some R) : xCon l yYa_machineAt cYa_machineAt 2 (some (.object "TimedYard$Machine")) 0 0 0 0 G B [.ref (o), .int (x1)] h sz (kP (some (va_rf R.1)) R.2 sz) := xCon.of (by decide) (by exact Nat.le_of_ble_eq_true rfl) (fun F e C hr _ => X_sub (lv' := [(0, .ref (o)), (1, .int (x1))]) [0, 1] rfl (Ya_machineAt_x C hr hR))
def Ya_placeAt_f (n : Nat) (o : Nat) (x1 : Int32) (x2 : Int32) (h : xH) : Option (Option Nat × xH) := (if kc h (o) 3 = true then obd (Ya_machineAt_f n (o) (x1) h) (fun r1 => bnd (r1.1) (fun w2 => oel (w2) (some (none, r1.2)) (fun a4 => (if x2 < 0 then some (none, r1.2) else obd (gi r1.2 (a4) 5 2) (fun u7 => (if u7 ≤ x2 then some (none, r1.2) else (if x2 < (6 : Int32) then obd (gq r1.2 (a4) 5 0) (fun w14 => obd w14 (fun a19 => obd (aq r1.2 (a19) 4 (x2)) (fun w20 => some ((w20), r1.2)))) else some (none, r1.2)))))))) else none)
set_option maxRecDepth 100000 in
set_option maxHeartbeats 8000000 in
theorem Ya_placeAt_x {F : xF} {G : xG} {B sz : Nat} {o : Nat} (C : xC F G B cYa_placeAt RYa 4 1 21 0 0) (hr : (xFM F).sig.returnType = (some (.object "TimedYard$Place"))) {n : Nat} {x1 : Int32} {x2 : Int32} {h : xH} {R : Option Nat × xH} (hR : Ya_placeAt_f n o x1 x2 h = some R) : X F G B (xZ F G B (kP (some (va_rf R.1)) R.2 sz) 0 0) 4 h sz 0 0 0 [(0, .ref (o)), (1, .int (x1)), (2, .int (x2))] [] := by
  unfold Ya_placeAt_f at hR
  refine X_aload_n C dYa_placeAt_0 rfl ?_
  refine X_iload_n C dYa_placeAt_1 rfl ?_
  have hq := o_if hR
  clear hR
  obtain ⟨k27, hR⟩ := hq
  obtain ⟨fs28, he29⟩ := kc_e k27
  have hq := o_bind hR
  clear hR
  obtain ⟨r1, hr1, hR⟩ := hq
  refine X_callVk (As := [.int (x1)]) (rest := []) C (Ya_machineAt_c hr1) wYa_47 ⟨by decide, by decide⟩ ⟨Nat.le_refl _, Nat.le_refl _⟩ he29 oYa.2.1 rfl rfl (Nat.le_of_ble_eq_true rfl) dYa_placeAt_2 ?_
  show X F G B _ 4 (r1.2) _ _ _ _ _ [va_rf (r1.1)]
  have hq := b_bnd hR
  clear hR
  obtain ⟨w2, e3, hR⟩ := hq
  rw [← e3]
  refine X_astore_nq (lv' := [(3, va_rf (w2)), (0, .ref (o)), (1, .int (x1)), (2, .int (x2))]) C dYa_placeAt_5 (by decide) rfl ?_
  refine X_aload_nq C dYa_placeAt_6 rfl ?_
  refine X_ifnullq (tgt := 28) C dYa_placeAt_7 (by decide) (fun e5 => ?_) (fun a4 e5 => ?_)
  · subst e5
    rw [oel_n] at hR
    refine X_null C dYa_placeAt_28 ?_
    rw [← Option.some.inj hR]
    exact X_aret C hr (Or.inl ⟨_, rfl⟩) (Or.inl rfl) (Nat.le_refl _) (Nat.le_refl _) dYa_placeAt_29 ⟨rfl, rfl, rfl⟩
  · subst e5
    rw [oel_s] at hR
    refine X_iload_n C dYa_placeAt_10 rfl ?_
    refine X_if_lt (tgt := 28) C dYa_placeAt_11 (by decide) (fun c6 => ?_) (fun c6 => ?_)
    · rw [if_pos c6] at hR
      refine X_null C dYa_placeAt_28 ?_
      rw [← Option.some.inj hR]
      exact X_aret C hr (Or.inl ⟨_, rfl⟩) (Or.inl rfl) (Nat.le_refl _) (Nat.le_refl _) dYa_placeAt_29 ⟨rfl, rfl, rfl⟩
    · rw [if_neg c6] at hR
      refine X_iload_n C dYa_placeAt_14 rfl ?_
      refine X_aload_n C dYa_placeAt_15 rfl ?_
      have hq := o_bind hR
      clear hR
      obtain ⟨u7, hx11, hR⟩ := hq
      obtain ⟨fs8, he9, hv10⟩ := gi_e hx11
      refine X_get (k := 2) C oMa fwYa_51 he9 hv10 dYa_placeAt_16 ?_
      refine X_icmp_ge (tgt := 28) C dYa_placeAt_19 (by decide) (fun c12 => ?_) (fun c12 => ?_)
      · rw [if_pos c12] at hR
        refine X_null C dYa_placeAt_28 ?_
        rw [← Option.some.inj hR]
        exact X_aret C hr (Or.inl ⟨_, rfl⟩) (Or.inl rfl) (Nat.le_refl _) (Nat.le_refl _) dYa_placeAt_29 ⟨rfl, rfl, rfl⟩
      · rw [if_neg c12] at hR
        refine X_iload_n C dYa_placeAt_22 rfl ?_
        refine X_bipush (v := 6) C dYa_placeAt_23 (by decide) ?_
        refine X_icmp_lt (tgt := 30) C dYa_placeAt_25 (by decide) (fun c13 => ?_) (fun c13 => ?_)
        · rw [if_pos c13] at hR
          refine X_aload_n C dYa_placeAt_30 rfl ?_
          have hq := o_bind hR
          clear hR
          obtain ⟨w14, hx18, hR⟩ := hq
          obtain ⟨fs15, he16, hv17⟩ := gq_e hx18
          refine X_get (k := 0) C oMa fwYa_54 he16 hv17 dYa_placeAt_31 ?_
          refine X_iload_n C dYa_placeAt_34 rfl ?_
          have hq := o_bind hR
          clear hR
          obtain ⟨a19, rfl, hR⟩ := hq
          have hq := o_bind hR
          clear hR
          obtain ⟨w20, hx21, hR⟩ := hq
          obtain ⟨n22, f23, he24, hi25, e26⟩ := aq_e hx21
          refine X_aald C rfl he24 hi25 dYa_placeAt_35 ?_
          rw [← e26]
          rw [← Option.some.inj hR]
          exact X_aret C hr (Or.inl ⟨_, rfl⟩) (rf_or _) (Nat.le_refl _) (Nat.le_refl _) dYa_placeAt_36 ⟨rfl, rfl, rfl⟩
        · rw [if_neg c13] at hR
          refine X_null C dYa_placeAt_28 ?_
          rw [← Option.some.inj hR]
          exact X_aret C hr (Or.inl ⟨_, rfl⟩) (Or.inl rfl) (Nat.le_refl _) (Nat.le_refl _) dYa_placeAt_29 ⟨rfl, rfl, rfl⟩
theorem Ya_placeAt_c {l : Launch} {G : xG} {B sz : Nat} {o : Nat} {n : Nat} {x1 : Int32} {x2 : Int32} {h : xH} {R : Option Nat × xH} (hR : Ya_placeAt_f n o x1 x2 h = some R) : xCon l yYa_placeAt cYa_placeAt 4 (some (.object "TimedYard$Place")) 1 21 0 0 G B [.ref (o), .int (x1), .int (x2)] h sz (kP (some (va_rf R.1)) R.2 sz) := xCon.of (by decide) (by exact Nat.le_of_ble_eq_true rfl) (fun F e C hr _ => X_sub (lv' := [(0, .ref (o)), (1, .int (x1)), (2, .int (x2))]) [0, 1, 2] rfl (Ya_placeAt_x C hr hR))
def Ya_wayAt_f (n : Nat) (o : Nat) (x1 : Int32) (x2 : Int32) (h : xH) : Option (Option Nat × xH) := (if kc h (o) 3 = true then obd (Ya_machineAt_f n (o) (x1) h) (fun r1 => bnd (r1.1) (fun w2 => oel (w2) (some (none, r1.2)) (fun a4 => (if x2 < 0 then some (none, r1.2) else obd (gi r1.2 (a4) 5 3) (fun u7 => (if u7 ≤ x2 then some (none, r1.2) else (if x2 < (12 : Int32) then obd (gq r1.2 (a4) 5 1) (fun w14 => obd w14 (fun a19 => obd (aq r1.2 (a19) 5 (x2)) (fun w20 => some ((w20), r1.2)))) else some (none, r1.2)))))))) else none)
set_option maxRecDepth 100000 in
set_option maxHeartbeats 8000000 in
theorem Ya_wayAt_x {F : xF} {G : xG} {B sz : Nat} {o : Nat} (C : xC F G B cYa_wayAt RYa 4 1 21 0 0) (hr : (xFM F).sig.returnType = (some (.object "TimedYard$Way"))) {n : Nat} {x1 : Int32} {x2 : Int32} {h : xH} {R : Option Nat × xH} (hR : Ya_wayAt_f n o x1 x2 h = some R) : X F G B (xZ F G B (kP (some (va_rf R.1)) R.2 sz) 0 0) 4 h sz 0 0 0 [(0, .ref (o)), (1, .int (x1)), (2, .int (x2))] [] := by
  unfold Ya_wayAt_f at hR
  refine X_aload_n C dYa_wayAt_0 rfl ?_
  refine X_iload_n C dYa_wayAt_1 rfl ?_
  have hq := o_if hR
  clear hR
  obtain ⟨k27, hR⟩ := hq
  obtain ⟨fs28, he29⟩ := kc_e k27
  have hq := o_bind hR
  clear hR
  obtain ⟨r1, hr1, hR⟩ := hq
  refine X_callVk (As := [.int (x1)]) (rest := []) C (Ya_machineAt_c hr1) wYa_47 ⟨by decide, by decide⟩ ⟨Nat.le_refl _, Nat.le_refl _⟩ he29 oYa.2.1 rfl rfl (Nat.le_of_ble_eq_true rfl) dYa_wayAt_2 ?_
  show X F G B _ 4 (r1.2) _ _ _ _ _ [va_rf (r1.1)]
  have hq := b_bnd hR
  clear hR
  obtain ⟨w2, e3, hR⟩ := hq
  rw [← e3]
  refine X_astore_nq (lv' := [(3, va_rf (w2)), (0, .ref (o)), (1, .int (x1)), (2, .int (x2))]) C dYa_wayAt_5 (by decide) rfl ?_
  refine X_aload_nq C dYa_wayAt_6 rfl ?_
  refine X_ifnullq (tgt := 28) C dYa_wayAt_7 (by decide) (fun e5 => ?_) (fun a4 e5 => ?_)
  · subst e5
    rw [oel_n] at hR
    refine X_null C dYa_wayAt_28 ?_
    rw [← Option.some.inj hR]
    exact X_aret C hr (Or.inl ⟨_, rfl⟩) (Or.inl rfl) (Nat.le_refl _) (Nat.le_refl _) dYa_wayAt_29 ⟨rfl, rfl, rfl⟩
  · subst e5
    rw [oel_s] at hR
    refine X_iload_n C dYa_wayAt_10 rfl ?_
    refine X_if_lt (tgt := 28) C dYa_wayAt_11 (by decide) (fun c6 => ?_) (fun c6 => ?_)
    · rw [if_pos c6] at hR
      refine X_null C dYa_wayAt_28 ?_
      rw [← Option.some.inj hR]
      exact X_aret C hr (Or.inl ⟨_, rfl⟩) (Or.inl rfl) (Nat.le_refl _) (Nat.le_refl _) dYa_wayAt_29 ⟨rfl, rfl, rfl⟩
    · rw [if_neg c6] at hR
      refine X_iload_n C dYa_wayAt_14 rfl ?_
      refine X_aload_n C dYa_wayAt_15 rfl ?_
      have hq := o_bind hR
      clear hR
      obtain ⟨u7, hx11, hR⟩ := hq
      obtain ⟨fs8, he9, hv10⟩ := gi_e hx11
      refine X_get (k := 3) C oMa fwYa_58 he9 hv10 dYa_wayAt_16 ?_
      refine X_icmp_ge (tgt := 28) C dYa_wayAt_19 (by decide) (fun c12 => ?_) (fun c12 => ?_)
      · rw [if_pos c12] at hR
        refine X_null C dYa_wayAt_28 ?_
        rw [← Option.some.inj hR]
        exact X_aret C hr (Or.inl ⟨_, rfl⟩) (Or.inl rfl) (Nat.le_refl _) (Nat.le_refl _) dYa_wayAt_29 ⟨rfl, rfl, rfl⟩
      · rw [if_neg c12] at hR
        refine X_iload_n C dYa_wayAt_22 rfl ?_
        refine X_bipush (v := 12) C dYa_wayAt_23 (by decide) ?_
        refine X_icmp_lt (tgt := 30) C dYa_wayAt_25 (by decide) (fun c13 => ?_) (fun c13 => ?_)
        · rw [if_pos c13] at hR
          refine X_aload_n C dYa_wayAt_30 rfl ?_
          have hq := o_bind hR
          clear hR
          obtain ⟨w14, hx18, hR⟩ := hq
          obtain ⟨fs15, he16, hv17⟩ := gq_e hx18
          refine X_get (k := 1) C oMa fwYa_61 he16 hv17 dYa_wayAt_31 ?_
          refine X_iload_n C dYa_wayAt_34 rfl ?_
          have hq := o_bind hR
          clear hR
          obtain ⟨a19, rfl, hR⟩ := hq
          have hq := o_bind hR
          clear hR
          obtain ⟨w20, hx21, hR⟩ := hq
          obtain ⟨n22, f23, he24, hi25, e26⟩ := aq_e hx21
          refine X_aald C rfl he24 hi25 dYa_wayAt_35 ?_
          rw [← e26]
          rw [← Option.some.inj hR]
          exact X_aret C hr (Or.inl ⟨_, rfl⟩) (rf_or _) (Nat.le_refl _) (Nat.le_refl _) dYa_wayAt_36 ⟨rfl, rfl, rfl⟩
        · rw [if_neg c13] at hR
          refine X_null C dYa_wayAt_28 ?_
          rw [← Option.some.inj hR]
          exact X_aret C hr (Or.inl ⟨_, rfl⟩) (Or.inl rfl) (Nat.le_refl _) (Nat.le_refl _) dYa_wayAt_29 ⟨rfl, rfl, rfl⟩
theorem Ya_wayAt_c {l : Launch} {G : xG} {B sz : Nat} {o : Nat} {n : Nat} {x1 : Int32} {x2 : Int32} {h : xH} {R : Option Nat × xH} (hR : Ya_wayAt_f n o x1 x2 h = some R) : xCon l yYa_wayAt cYa_wayAt 4 (some (.object "TimedYard$Way")) 1 21 0 0 G B [.ref (o), .int (x1), .int (x2)] h sz (kP (some (va_rf R.1)) R.2 sz) := xCon.of (by decide) (by exact Nat.le_of_ble_eq_true rfl) (fun F e C hr _ => X_sub (lv' := [(0, .ref (o)), (1, .int (x1)), (2, .int (x2))]) [0, 1, 2] rfl (Ya_wayAt_x C hr hR))
def Ya_stateAt_f (n : Nat) (o : Nat) (x1 : Int32) (h : xH) : Option (Option Nat × xH) := (if x1 < 0 then some (none, h) else obd (gi h (o) 3 3) (fun u2 => (if u2 ≤ x1 then some (none, h) else (if (200 : Int32) ≤ x1 then some (none, h) else obd (gq h (o) 3 2) (fun w9 => obd w9 (fun a14 => obd (aq h (a14) 7 (x1)) (fun w15 => some ((w15), h))))))))
set_option maxRecDepth 100000 in
set_option maxHeartbeats 8000000 in
theorem Ya_stateAt_x {F : xF} {G : xG} {B sz : Nat} {o : Nat} (C : xC F G B cYa_stateAt RYa 2 0 0 0 0) (hr : (xFM F).sig.returnType = (some (.object "TimedYard$State"))) {n : Nat} {x1 : Int32} {h : xH} {R : Option Nat × xH} (hR : Ya_stateAt_f n o x1 h = some R) : X F G B (xZ F G B (kP (some (va_rf R.1)) R.2 sz) 0 0) 2 h sz 0 0 0 [(0, .ref (o)), (1, .int (x1))] [] := by
  unfold Ya_stateAt_f at hR
  refine X_iload_n C dYa_stateAt_0 rfl ?_
  refine X_if_lt (tgt := 28) C dYa_stateAt_1 (by decide) (fun c1 => ?_) (fun c1 => ?_)
  · rw [if_pos c1] at hR
    refine X_null C dYa_stateAt_28 ?_
    rw [← Option.some.inj hR]
    exact X_aret C hr (Or.inl ⟨_, rfl⟩) (Or.inl rfl) (Nat.le_refl _) (Nat.le_refl _) dYa_stateAt_29 ⟨rfl, rfl, rfl⟩
  · rw [if_neg c1] at hR
    refine X_iload_n C dYa_stateAt_4 rfl ?_
    refine X_aload_n C dYa_stateAt_5 rfl ?_
    have hq := o_bind hR
    clear hR
    obtain ⟨u2, hx6, hR⟩ := hq
    obtain ⟨fs3, he4, hv5⟩ := gi_e hx6
    refine X_get (k := 3) C oYa fwYa_65 he4 hv5 dYa_stateAt_6 ?_
    refine X_icmp_ge (tgt := 28) C dYa_stateAt_9 (by decide) (fun c7 => ?_) (fun c7 => ?_)
    · rw [if_pos c7] at hR
      refine X_null C dYa_stateAt_28 ?_
      rw [← Option.some.inj hR]
      exact X_aret C hr (Or.inl ⟨_, rfl⟩) (Or.inl rfl) (Nat.le_refl _) (Nat.le_refl _) dYa_stateAt_29 ⟨rfl, rfl, rfl⟩
    · rw [if_neg c7] at hR
      refine X_iload_n C dYa_stateAt_12 rfl ?_
      refine X_sipush (v := 200) C dYa_stateAt_13 (by decide) ?_
      refine X_icmp_ge (tgt := 28) C dYa_stateAt_16 (by decide) (fun c8 => ?_) (fun c8 => ?_)
      · rw [if_pos c8] at hR
        refine X_null C dYa_stateAt_28 ?_
        rw [← Option.some.inj hR]
        exact X_aret C hr (Or.inl ⟨_, rfl⟩) (Or.inl rfl) (Nat.le_refl _) (Nat.le_refl _) dYa_stateAt_29 ⟨rfl, rfl, rfl⟩
      · rw [if_neg c8] at hR
        refine X_aload_n C dYa_stateAt_19 rfl ?_
        have hq := o_bind hR
        clear hR
        obtain ⟨w9, hx13, hR⟩ := hq
        obtain ⟨fs10, he11, hv12⟩ := gq_e hx13
        refine X_get (k := 2) C oYa fwYa_19 he11 hv12 dYa_stateAt_20 ?_
        refine X_iload_n C dYa_stateAt_23 rfl ?_
        have hq := o_bind hR
        clear hR
        obtain ⟨a14, rfl, hR⟩ := hq
        have hq := o_bind hR
        clear hR
        obtain ⟨w15, hx16, hR⟩ := hq
        obtain ⟨n17, f18, he19, hi20, e21⟩ := aq_e hx16
        refine X_aald C rfl he19 hi20 dYa_stateAt_24 ?_
        rw [← e21]
        refine X_goto (tgt := 29) C dYa_stateAt_25 (by decide) ?_
        rw [← Option.some.inj hR]
        exact X_aret C hr (Or.inl ⟨_, rfl⟩) (rf_or _) (Nat.le_refl _) (Nat.le_refl _) dYa_stateAt_29 ⟨rfl, rfl, rfl⟩
theorem Ya_stateAt_c {l : Launch} {G : xG} {B sz : Nat} {o : Nat} {n : Nat} {x1 : Int32} {h : xH} {R : Option Nat × xH} (hR : Ya_stateAt_f n o x1 h = some R) : xCon l yYa_stateAt cYa_stateAt 2 (some (.object "TimedYard$State")) 0 0 0 0 G B [.ref (o), .int (x1)] h sz (kP (some (va_rf R.1)) R.2 sz) := xCon.of (by decide) (by exact Nat.le_of_ble_eq_true rfl) (fun F e C hr _ => X_sub (lv' := [(0, .ref (o)), (1, .int (x1))]) [0, 1] rfl (Ya_stateAt_x C hr hR))
def Ya_canBeWalked_t0 (f : Nat → Int32 → xH → Option (Int32 × xH)) (n : Nat) (o : Nat) (x1 : Int32) (h : xH) : Option (Int32 × xH) := f 2 ((0 : Int32)) h
def Ya_canBeWalked_t2 (f : Nat → Int32 → xH → Option (Int32 × xH)) (n : Nat) (o : Nat) (x1 : Int32) (h : xH) : Option (Int32 × xH) := obd (gi h (o) 3 1) (fun u1 => (if u1 ≤ x1 then obd (gi h (o) 3 1) (fun u7 => (if u7 ≤ 0 then some ((0 : Int32), h) else some ((1 : Int32), h))) else (if kc h (o) 3 = true then obd (Ya_placeAt_f n (o) (x1) ((0 : Int32)) h) (fun r13 => bnd (r13.1) (fun w14 => oel (w14) (some ((0 : Int32), r13.2)) (fun a16 => f 2 (x1 + 1) r13.2))) else none)))
def Ya_canBeWalked_f : Nat → Nat → Nat → Int32 → xH → Option (Int32 × xH)
  | 0 => fun _ _ _ _ => none
  | n + 1 => fun p o x1 h => if p = 0 then Ya_canBeWalked_t0 (fun p x1 h => Ya_canBeWalked_f n p o x1 h) n o x1 h else if p = 2 then Ya_canBeWalked_t2 (fun p x1 h => Ya_canBeWalked_f n p o x1 h) n o x1 h else none
theorem Ya_canBeWalked_e0 (n : Nat) (o : Nat) (x1 : Int32) (h : xH) : Ya_canBeWalked_f (n + 1) 0 o x1 h = Ya_canBeWalked_t0 (fun p x1 h => Ya_canBeWalked_f n p o x1 h) n o x1 h := by
  show (if 0 = 0 then Ya_canBeWalked_t0 (fun p x1 h => Ya_canBeWalked_f n p o x1 h) n o x1 h else if 0 = 2 then Ya_canBeWalked_t2 (fun p x1 h => Ya_canBeWalked_f n p o x1 h) n o x1 h else none) = _
  rw [if_pos rfl]
theorem Ya_canBeWalked_e2 (n : Nat) (o : Nat) (x1 : Int32) (h : xH) : Ya_canBeWalked_f (n + 1) 2 o x1 h = Ya_canBeWalked_t2 (fun p x1 h => Ya_canBeWalked_f n p o x1 h) n o x1 h := by
  show (if 2 = 0 then Ya_canBeWalked_t0 (fun p x1 h => Ya_canBeWalked_f n p o x1 h) n o x1 h else if 2 = 2 then Ya_canBeWalked_t2 (fun p x1 h => Ya_canBeWalked_f n p o x1 h) n o x1 h else none) = _
  rw [if_neg (by decide), if_pos rfl]
set_option maxRecDepth 100000 in
set_option maxHeartbeats 8000000 in
theorem Ya_canBeWalked_x {F : xF} {G : xG} {B sz : Nat} {o : Nat} (C : xC F G B cYa_canBeWalked RYa 2 2 44 0 0) (hr : (xFM F).sig.returnType = (some .boolean)) : ∀ (n : Nat) (x1 : Int32) (h : xH) (R : Int32 × xH), (Ya_canBeWalked_f n 0 o x1 h = some R → X F G B (xZ F G B (kP (some (.int R.1)) R.2 sz) 0 0) 2 h sz 0 0 0 [(0, .ref (o))] []) ∧ (Ya_canBeWalked_f n 2 o x1 h = some R → X F G B (xZ F G B (kP (some (.int R.1)) R.2 sz) 0 0) 2 h sz 0 0 2 [(0, .ref (o)), (1, .int (x1))] []) := by
  intro n
  induction n with
  | zero => exact fun _ _ _ => ⟨(fun hR => nomatch (show (none : Option _) = some _ from hR)), (fun hR => nomatch (show (none : Option _) = some _ from hR))⟩
  | succ n ih =>
    intro x1 h R
    refine ⟨fun hR => ?_, fun hR => ?_⟩
    · rw [Ya_canBeWalked_e0] at hR
      unfold Ya_canBeWalked_t0 at hR
      refine X_iconst (v := 0) C dYa_canBeWalked_0 rfl ?_
      refine X_istore_n (lv' := [(1, .int ((0 : Int32))), (0, .ref (o))]) C dYa_canBeWalked_1 (by decide) rfl ?_
      refine X_sub (lv' := [(0, .ref (o)), (1, .int ((0 : Int32)))]) [1, 0] rfl ?_
      exact (ih ((0 : Int32)) _ _).2 hR
    · rw [Ya_canBeWalked_e2] at hR
      unfold Ya_canBeWalked_t2 at hR
      refine X_iload_n C dYa_canBeWalked_2 rfl ?_
      refine X_aload_n C dYa_canBeWalked_3 rfl ?_
      have hq := o_bind hR
      clear hR
      obtain ⟨u1, hx5, hR⟩ := hq
      obtain ⟨fs2, he3, hv4⟩ := gi_e hx5
      refine X_get (k := 1) C oYa fwYa_43 he3 hv4 dYa_canBeWalked_4 ?_
      refine X_icmp_ge (tgt := 27) C dYa_canBeWalked_7 (by decide) (fun c6 => ?_) (fun c6 => ?_)
      · rw [if_pos c6] at hR
        refine X_aload_n C dYa_canBeWalked_27 rfl ?_
        have hq := o_bind hR
        clear hR
        obtain ⟨u7, hx11, hR⟩ := hq
        obtain ⟨fs8, he9, hv10⟩ := gi_e hx11
        refine X_get (k := 1) C oYa fwYa_43 he9 hv10 dYa_canBeWalked_28 ?_
        refine X_if_le (tgt := 38) C dYa_canBeWalked_31 (by decide) (fun c12 => ?_) (fun c12 => ?_)
        · rw [if_pos c12] at hR
          refine X_iconst (v := 0) C dYa_canBeWalked_38 rfl ?_
          rw [← Option.some.inj hR]
          exact X_zret C hr rfl (Nat.le_refl _) (Nat.le_refl _) dYa_canBeWalked_39 ⟨rfl, rfl, rfl⟩
        · rw [if_neg c12] at hR
          refine X_iconst (v := 1) C dYa_canBeWalked_34 rfl ?_
          refine X_goto (tgt := 39) C dYa_canBeWalked_35 (by decide) ?_
          rw [← Option.some.inj hR]
          exact X_zret C hr rfl (Nat.le_refl _) (Nat.le_refl _) dYa_canBeWalked_39 ⟨rfl, rfl, rfl⟩
      · rw [if_neg c6] at hR
        refine X_aload_n C dYa_canBeWalked_10 rfl ?_
        refine X_iload_n C dYa_canBeWalked_11 rfl ?_
        refine X_iconst (v := 0) C dYa_canBeWalked_12 rfl ?_
        have hq := o_if hR
        clear hR
        obtain ⟨k18, hR⟩ := hq
        obtain ⟨fs19, he20⟩ := kc_e k18
        have hq := o_bind hR
        clear hR
        obtain ⟨r13, hr13, hR⟩ := hq
        refine X_callVk (As := [.int (x1), .int ((0 : Int32))]) (rest := []) C (Ya_placeAt_c hr13) wYa_68 ⟨by decide, by decide⟩ ⟨Nat.le_refl _, Nat.le_refl _⟩ he20 oYa.2.1 rfl rfl (Nat.le_of_ble_eq_true rfl) dYa_canBeWalked_13 ?_
        show X F G B _ 2 (r13.2) _ _ _ _ _ [va_rf (r13.1)]
        have hq := b_bnd hR
        clear hR
        obtain ⟨w14, e15, hR⟩ := hq
        rw [← e15]
        refine X_ifnonnullq (tgt := 21) C dYa_canBeWalked_16 (by decide) (fun a16 e17 => ?_) (fun e17 => ?_)
        · subst e17
          rw [oel_s] at hR
          refine X_iinc (v := x1 + 1) (lv' := [(1, .int (x1 + 1)), (0, .ref (o))]) C dYa_canBeWalked_21 rfl rfl (by decide) rfl ?_
          refine X_goto (tgt := 2) C dYa_canBeWalked_24 (by decide) ?_
          refine X_sub (lv' := [(0, .ref (o)), (1, .int (x1 + 1))]) [1, 0] rfl ?_
          exact (ih (x1 + 1) _ _).2 hR
        · subst e17
          rw [oel_n] at hR
          refine X_iconst (v := 0) C dYa_canBeWalked_19 rfl ?_
          rw [← Option.some.inj hR]
          exact X_zret C hr rfl (Nat.le_refl _) (Nat.le_refl _) dYa_canBeWalked_20 ⟨rfl, rfl, rfl⟩
theorem Ya_canBeWalked_c {l : Launch} {G : xG} {B sz : Nat} {o : Nat} {n : Nat} {h : xH} {R : Int32 × xH} (hR : Ya_canBeWalked_f n 0 o 0 h = some R) : xCon l yYa_canBeWalked cYa_canBeWalked 2 (some .boolean) 2 44 0 0 G B [.ref (o)] h sz (kP (some (.int R.1)) R.2 sz) := xCon.of (by decide) (by exact Nat.le_of_ble_eq_true rfl) (fun F e C hr _ => X_sub (lv' := [(0, .ref (o))]) [0] rfl ((Ya_canBeWalked_x C hr n 0 h R).1 hR))
def J7_fill_53178_t0 (f : Nat → Option Nat → Int32 → Int32 → Int32 → xH → Option (Int32 × xH)) (n : Nat) (y0 : Option Nat) (x1 : Int32) (x2 : Int32) (x3 : Int32) (h : xH) : Option (Int32 × xH) := obd y0 (fun a1 => obd (al h (a1) 0) (fun u2 => f 5 (some (a1)) (x1) ((0 : Int32)) (u2) h))
def J7_fill_53178_t5 (f : Nat → Option Nat → Int32 → Int32 → Int32 → xH → Option (Int32 × xH)) (n : Nat) (y0 : Option Nat) (x1 : Int32) (x2 : Int32) (x3 : Int32) (h : xH) : Option (Int32 × xH) := (if x3 ≤ x2 then some (0, h) else obd y0 (fun a8 => obd (pa h (a8) 0 (x2) (x1)) (fun h9 => f 5 (some (a8)) (x1) (x2 + 1) (x3) h9)))
def J7_fill_53178_f : Nat → Nat → Option Nat → Int32 → Int32 → Int32 → xH → Option (Int32 × xH)
  | 0 => fun _ _ _ _ _ _ => none
  | n + 1 => fun p y0 x1 x2 x3 h => if p = 0 then J7_fill_53178_t0 (J7_fill_53178_f n) n y0 x1 x2 x3 h else if p = 5 then J7_fill_53178_t5 (J7_fill_53178_f n) n y0 x1 x2 x3 h else none
theorem J7_fill_53178_e0 (n : Nat) (y0 : Option Nat) (x1 : Int32) (x2 : Int32) (x3 : Int32) (h : xH) : J7_fill_53178_f (n + 1) 0 y0 x1 x2 x3 h = J7_fill_53178_t0 (J7_fill_53178_f n) n y0 x1 x2 x3 h := by
  show (if 0 = 0 then J7_fill_53178_t0 (J7_fill_53178_f n) n y0 x1 x2 x3 h else if 0 = 5 then J7_fill_53178_t5 (J7_fill_53178_f n) n y0 x1 x2 x3 h else none) = _
  rw [if_pos rfl]
theorem J7_fill_53178_e5 (n : Nat) (y0 : Option Nat) (x1 : Int32) (x2 : Int32) (x3 : Int32) (h : xH) : J7_fill_53178_f (n + 1) 5 y0 x1 x2 x3 h = J7_fill_53178_t5 (J7_fill_53178_f n) n y0 x1 x2 x3 h := by
  show (if 5 = 0 then J7_fill_53178_t0 (J7_fill_53178_f n) n y0 x1 x2 x3 h else if 5 = 5 then J7_fill_53178_t5 (J7_fill_53178_f n) n y0 x1 x2 x3 h else none) = _
  rw [if_neg (by decide), if_pos rfl]
set_option maxRecDepth 100000 in
set_option maxHeartbeats 8000000 in
theorem J7_fill_53178_x {F : xF} {G : xG} {B sz : Nat} (C : xC F G B cJ7_fill_53178 RJ7 4 0 0 0 0) (hr : (xFM F).sig.returnType = none) : ∀ (n : Nat) (y0 : Option Nat) (x1 : Int32) (x2 : Int32) (x3 : Int32) (h : xH) (R : Int32 × xH), (J7_fill_53178_f n 0 y0 x1 x2 x3 h = some R → X F G B (xZ F G B (kP none R.2 sz) 0 0) 4 h sz 0 0 0 [(0, va_rf (y0)), (1, .int (x1))] []) ∧ (J7_fill_53178_f n 5 y0 x1 x2 x3 h = some R → X F G B (xZ F G B (kP none R.2 sz) 0 0) 4 h sz 0 0 5 [(0, va_rf (y0)), (1, .int (x1)), (2, .int (x2)), (3, .int (x3))] []) := by
  intro n
  induction n with
  | zero => exact fun _ _ _ _ _ _ => ⟨(fun hR => nomatch (show (none : Option _) = some _ from hR)), (fun hR => nomatch (show (none : Option _) = some _ from hR))⟩
  | succ n ih =>
    intro y0 x1 x2 x3 h R
    refine ⟨fun hR => ?_, fun hR => ?_⟩
    · rw [J7_fill_53178_e0] at hR
      unfold J7_fill_53178_t0 at hR
      refine X_iconst (v := 0) C dJ7_fill_53178_0 rfl ?_
      refine X_istore_n (lv' := [(2, .int ((0 : Int32))), (0, va_rf (y0)), (1, .int (x1))]) C dJ7_fill_53178_1 (by decide) (by simp [rf_cat, cat_i, cat_r, cat_l, rf_n, rf_s] <;> decide) ?_
      refine X_aload_nq C dJ7_fill_53178_2 rfl ?_
      have hq := o_bind hR
      clear hR
      obtain ⟨a1, rfl, hR⟩ := hq
      have hq := o_bind hR
      clear hR
      obtain ⟨u2, hx3, hR⟩ := hq
      obtain ⟨v4, he5, e6⟩ := al_e hx3
      refine X_alen C rfl he5 e6 dJ7_fill_53178_3 ?_
      refine X_istore_n (lv' := [(3, .int (u2)), (2, .int ((0 : Int32))), (0, .ref (a1)), (1, .int (x1))]) C dJ7_fill_53178_4 (by decide) rfl ?_
      refine X_sub (lv' := [(0, va_rf ((some (a1)))), (1, .int (x1)), (2, .int ((0 : Int32))), (3, .int (u2))]) [2, 3, 1, 0] rfl ?_
      exact (ih (some (a1)) (x1) ((0 : Int32)) (u2) _ _).2 hR
    · rw [J7_fill_53178_e5] at hR
      unfold J7_fill_53178_t5 at hR
      refine X_iload_n C dJ7_fill_53178_5 rfl ?_
      refine X_iload_n C dJ7_fill_53178_6 rfl ?_
      refine X_icmp_ge (tgt := 20) C dJ7_fill_53178_7 (by decide) (fun c7 => ?_) (fun c7 => ?_)
      · rw [if_pos c7] at hR
        rw [← Option.some.inj hR]
        exact X_vret C hr (Nat.le_refl _) (Nat.le_refl _) dJ7_fill_53178_20 ⟨rfl, rfl, rfl⟩
      · rw [if_neg c7] at hR
        refine X_aload_nq C dJ7_fill_53178_10 rfl ?_
        refine X_iload_n C dJ7_fill_53178_11 rfl ?_
        refine X_iload_n C dJ7_fill_53178_12 rfl ?_
        have hq := o_bind hR
        clear hR
        obtain ⟨a8, rfl, hR⟩ := hq
        have hq := o_bind hR
        clear hR
        obtain ⟨h9, hh10, hR⟩ := hq
        obtain ⟨n11, f12, he13, hi14, e15⟩ := pa_e hh10
        refine X_iast C rfl he13 hi14 dJ7_fill_53178_13 ?_
        rw [← e15]
        refine X_iinc (v := x2 + 1) (lv' := [(2, .int (x2 + 1)), (0, .ref (a8)), (1, .int (x1)), (3, .int (x3))]) C dJ7_fill_53178_14 rfl rfl (by decide) rfl ?_
        refine X_goto (tgt := 5) C dJ7_fill_53178_17 (by decide) ?_
        refine X_sub (lv' := [(0, va_rf ((some (a8)))), (1, .int (x1)), (2, .int (x2 + 1)), (3, .int (x3))]) [1, 2, 0, 3] rfl ?_
        exact (ih (some (a8)) (x1) (x2 + 1) (x3) _ _).2 hR
theorem J7_fill_53178_c {l : Launch} {G : xG} {B sz : Nat} {n : Nat} {y0 : Option Nat} {x1 : Int32} {h : xH} {R : Int32 × xH} (hR : J7_fill_53178_f n 0 y0 x1 0 0 h = some R) : xCon l yJ7_fill_53178 cJ7_fill_53178 4 none 0 0 0 0 G B [va_rf (y0), .int (x1)] h sz (kP none R.2 sz) := xCon.of (by decide) (by simp [lg_sl, rf_cat, cat_i, cat_r, cat_l]) (fun F e C hr _ => X_sub (lv' := [(0, va_rf (y0)), (1, .int (x1))]) [0, 1] (by simp [lv_args, lv_pick, rf_cat, cat_i, cat_r, cat_l]) ((J7_fill_53178_x C hr n y0 x1 0 0 h R).1 hR))
def Ya_heed_f (n : Nat) (o : Nat) (x1 : Int32) (x2 : Int32) (h : xH) : Option (Int32 × xH) := (if x1 ≤ 0 then some (0, h) else (if (4 : Int32) ≤ x1 then some (0, h) else obd (gq h (o) 3 9) (fun w3 => obd (gq h (o) 3 9) (fun w8 => obd w8 (fun a13 => obd (ai h (a13) 0 (x1)) (fun u14 => obd w3 (fun a21 => obd (pa h (a21) 0 (x1) ((if u14 < (if 0 ≤ (x2) >>> (((1 : Int32)) &&& 31) then (x2) >>> (((1 : Int32)) &&& 31) else -((x2) >>> (((1 : Int32)) &&& 31))) then (if 0 ≤ (x2) >>> (((1 : Int32)) &&& 31) then (x2) >>> (((1 : Int32)) &&& 31) else -((x2) >>> (((1 : Int32)) &&& 31))) else u14))) (fun h22 => some (0, h22)))))))))
set_option maxRecDepth 100000 in
set_option maxHeartbeats 8000000 in
theorem Ya_heed_x {F : xF} {G : xG} {B sz : Nat} {o : Nat} (C : xC F G B cYa_heed RYa 3 1 21 0 0) (hr : (xFM F).sig.returnType = none) {n : Nat} {x1 : Int32} {x2 : Int32} {h : xH} {R : Int32 × xH} (hR : Ya_heed_f n o x1 x2 h = some R) : X F G B (xZ F G B (kP none R.2 sz) 0 0) 3 h sz 0 0 0 [(0, .ref (o)), (1, .int (x1)), (2, .int (x2))] [] := by
  unfold Ya_heed_f at hR
  refine X_iload_n C dYa_heed_0 rfl ?_
  refine X_if_le (tgt := 30) C dYa_heed_1 (by decide) (fun c1 => ?_) (fun c1 => ?_)
  · rw [if_pos c1] at hR
    rw [← Option.some.inj hR]
    exact X_vret C hr (Nat.le_refl _) (Nat.le_refl _) dYa_heed_30 ⟨rfl, rfl, rfl⟩
  · rw [if_neg c1] at hR
    refine X_iload_n C dYa_heed_4 rfl ?_
    refine X_iconst (v := 4) C dYa_heed_5 rfl ?_
    refine X_icmp_ge (tgt := 30) C dYa_heed_6 (by decide) (fun c2 => ?_) (fun c2 => ?_)
    · rw [if_pos c2] at hR
      rw [← Option.some.inj hR]
      exact X_vret C hr (Nat.le_refl _) (Nat.le_refl _) dYa_heed_30 ⟨rfl, rfl, rfl⟩
    · rw [if_neg c2] at hR
      refine X_aload_n C dYa_heed_9 rfl ?_
      have hq := o_bind hR
      clear hR
      obtain ⟨w3, hx7, hR⟩ := hq
      obtain ⟨fs4, he5, hv6⟩ := gq_e hx7
      refine X_get (k := 9) C oYa fwYa_27 he5 hv6 dYa_heed_10 ?_
      refine X_iload_n C dYa_heed_13 rfl ?_
      refine X_aload_n C dYa_heed_14 rfl ?_
      have hq := o_bind hR
      clear hR
      obtain ⟨w8, hx12, hR⟩ := hq
      obtain ⟨fs9, he10, hv11⟩ := gq_e hx12
      refine X_get (k := 9) C oYa fwYa_27 he10 hv11 dYa_heed_15 ?_
      refine X_iload_n C dYa_heed_18 rfl ?_
      have hq := o_bind hR
      clear hR
      obtain ⟨a13, rfl, hR⟩ := hq
      have hq := o_bind hR
      clear hR
      obtain ⟨u14, hx15, hR⟩ := hq
      obtain ⟨n16, f17, he18, hi19, e20⟩ := ai_e hx15
      refine X_iald C rfl he18 hi19 dYa_heed_19 ?_
      rw [← e20]
      refine X_iload_n C dYa_heed_20 rfl ?_
      refine X_iconst (v := 1) C dYa_heed_21 rfl ?_
      refine X_ishr C dYa_heed_22 ?_
      refine X_abs C mwYa_162 ⟨by decide, by simp [rf_cat, cat_i, cat_r, cat_l]⟩ ⟨Nat.le_refl _, Nat.le_refl _⟩ dYa_heed_23 ?_
      refine X_max C mwYa_168 ⟨by decide, by simp [rf_cat, cat_i, cat_r, cat_l]⟩ ⟨Nat.le_refl _, Nat.le_refl _⟩ dYa_heed_26 ?_
      have hq := o_bind hR
      clear hR
      obtain ⟨a21, rfl, hR⟩ := hq
      have hq := o_bind hR
      clear hR
      obtain ⟨h22, hh23, hR⟩ := hq
      obtain ⟨n24, f25, he26, hi27, e28⟩ := pa_e hh23
      refine X_iast C rfl he26 hi27 dYa_heed_29 ?_
      rw [← e28]
      rw [← Option.some.inj hR]
      exact X_vret C hr (Nat.le_refl _) (Nat.le_refl _) dYa_heed_30 ⟨rfl, rfl, rfl⟩
theorem Ya_heed_c {l : Launch} {G : xG} {B sz : Nat} {o : Nat} {n : Nat} {x1 : Int32} {x2 : Int32} {h : xH} {R : Int32 × xH} (hR : Ya_heed_f n o x1 x2 h = some R) : xCon l yYa_heed cYa_heed 3 none 1 21 0 0 G B [.ref (o), .int (x1), .int (x2)] h sz (kP none R.2 sz) := xCon.of (by decide) (by exact Nat.le_of_ble_eq_true rfl) (fun F e C hr _ => X_sub (lv' := [(0, .ref (o)), (1, .int (x1)), (2, .int (x2))]) [0, 1, 2] rfl (Ya_heed_x C hr hR))
def Ya_heedLimits_t0 (f : Nat → Option Nat → Int32 → xH → Option (Int32 × xH)) (n : Nat) (o : Nat) (y1 : Option Nat) (x2 : Int32) (h : xH) : Option (Int32 × xH) := oel (y1) (some (0, h)) (fun a1 => f 7 (some (a1)) ((0 : Int32)) h)
def Ya_heedLimits_t7 (f : Nat → Option Nat → Int32 → xH → Option (Int32 × xH)) (n : Nat) (o : Nat) (y1 : Option Nat) (x2 : Int32) (h : xH) : Option (Int32 × xH) := obd y1 (fun a3 => obd (gi h (a3) 6 2) (fun u4 => (if u4 ≤ x2 then some (0, h) else (if (2 : Int32) ≤ x2 then some (0, h) else obd (gq h (a3) 6 0) (fun w11 => obd w11 (fun a16 => obd (ai h (a16) 0 (x2)) (fun u17 => obd (gq h (a3) 6 1) (fun w24 => obd w24 (fun a29 => obd (ai h (a29) 0 (x2)) (fun u30 => (if kc h (o) 3 = true then obd (Ya_heed_f n (o) (u17) (u30) h) (fun r37 => f 7 (some (a3)) (x2 + 1) r37.2) else none)))))))))))
def Ya_heedLimits_f : Nat → Nat → Nat → Option Nat → Int32 → xH → Option (Int32 × xH)
  | 0 => fun _ _ _ _ _ => none
  | n + 1 => fun p o y1 x2 h => if p = 0 then Ya_heedLimits_t0 (fun p y1 x2 h => Ya_heedLimits_f n p o y1 x2 h) n o y1 x2 h else if p = 7 then Ya_heedLimits_t7 (fun p y1 x2 h => Ya_heedLimits_f n p o y1 x2 h) n o y1 x2 h else none
theorem Ya_heedLimits_e0 (n : Nat) (o : Nat) (y1 : Option Nat) (x2 : Int32) (h : xH) : Ya_heedLimits_f (n + 1) 0 o y1 x2 h = Ya_heedLimits_t0 (fun p y1 x2 h => Ya_heedLimits_f n p o y1 x2 h) n o y1 x2 h := by
  show (if 0 = 0 then Ya_heedLimits_t0 (fun p y1 x2 h => Ya_heedLimits_f n p o y1 x2 h) n o y1 x2 h else if 0 = 7 then Ya_heedLimits_t7 (fun p y1 x2 h => Ya_heedLimits_f n p o y1 x2 h) n o y1 x2 h else none) = _
  rw [if_pos rfl]
theorem Ya_heedLimits_e7 (n : Nat) (o : Nat) (y1 : Option Nat) (x2 : Int32) (h : xH) : Ya_heedLimits_f (n + 1) 7 o y1 x2 h = Ya_heedLimits_t7 (fun p y1 x2 h => Ya_heedLimits_f n p o y1 x2 h) n o y1 x2 h := by
  show (if 7 = 0 then Ya_heedLimits_t0 (fun p y1 x2 h => Ya_heedLimits_f n p o y1 x2 h) n o y1 x2 h else if 7 = 7 then Ya_heedLimits_t7 (fun p y1 x2 h => Ya_heedLimits_f n p o y1 x2 h) n o y1 x2 h else none) = _
  rw [if_neg (by decide), if_pos rfl]
set_option maxRecDepth 100000 in
set_option maxHeartbeats 8000000 in
theorem Ya_heedLimits_x {F : xF} {G : xG} {B sz : Nat} {o : Nat} (C : xC F G B cYa_heedLimits RYa 3 2 43 0 0) (hr : (xFM F).sig.returnType = none) : ∀ (n : Nat) (y1 : Option Nat) (x2 : Int32) (h : xH) (R : Int32 × xH), (Ya_heedLimits_f n 0 o y1 x2 h = some R → X F G B (xZ F G B (kP none R.2 sz) 0 0) 3 h sz 0 0 0 [(0, .ref (o)), (1, va_rf (y1))] []) ∧ (Ya_heedLimits_f n 7 o y1 x2 h = some R → X F G B (xZ F G B (kP none R.2 sz) 0 0) 3 h sz 0 0 7 [(0, .ref (o)), (1, va_rf (y1)), (2, .int (x2))] []) := by
  intro n
  induction n with
  | zero => exact fun _ _ _ _ => ⟨(fun hR => nomatch (show (none : Option _) = some _ from hR)), (fun hR => nomatch (show (none : Option _) = some _ from hR))⟩
  | succ n ih =>
    intro y1 x2 h R
    refine ⟨fun hR => ?_, fun hR => ?_⟩
    · rw [Ya_heedLimits_e0] at hR
      unfold Ya_heedLimits_t0 at hR
      refine X_aload_nq C dYa_heedLimits_0 rfl ?_
      refine X_ifnonnullq (tgt := 5) C dYa_heedLimits_1 (by decide) (fun a1 e2 => ?_) (fun e2 => ?_)
      · subst e2
        rw [oel_s] at hR
        refine X_iconst (v := 0) C dYa_heedLimits_5 rfl ?_
        refine X_istore_n (lv' := [(2, .int ((0 : Int32))), (0, .ref (o)), (1, .ref (a1))]) C dYa_heedLimits_6 (by decide) rfl ?_
        refine X_sub (lv' := [(0, .ref (o)), (1, va_rf ((some (a1)))), (2, .int ((0 : Int32)))]) [1, 2, 0] rfl ?_
        exact (ih (some (a1)) ((0 : Int32)) _ _).2 hR
      · subst e2
        rw [oel_n] at hR
        rw [← Option.some.inj hR]
        exact X_vret C hr (Nat.le_refl _) (Nat.le_refl _) dYa_heedLimits_4 ⟨rfl, rfl, rfl⟩
    · rw [Ya_heedLimits_e7] at hR
      unfold Ya_heedLimits_t7 at hR
      refine X_iload_n C dYa_heedLimits_7 rfl ?_
      refine X_aload_nq C dYa_heedLimits_8 rfl ?_
      have hq := o_bind hR
      clear hR
      obtain ⟨a3, rfl, hR⟩ := hq
      have hq := o_bind hR
      clear hR
      obtain ⟨u4, hx8, hR⟩ := hq
      obtain ⟨fs5, he6, hv7⟩ := gi_e hx8
      refine X_get (k := 2) C oPl fwYa_138 he6 hv7 dYa_heedLimits_9 ?_
      refine X_icmp_ge (tgt := 42) C dYa_heedLimits_12 (by decide) (fun c9 => ?_) (fun c9 => ?_)
      · rw [if_pos c9] at hR
        rw [← Option.some.inj hR]
        exact X_vret C hr (Nat.le_refl _) (Nat.le_refl _) dYa_heedLimits_42 ⟨rfl, rfl, rfl⟩
      · rw [if_neg c9] at hR
        refine X_iload_n C dYa_heedLimits_15 rfl ?_
        refine X_iconst (v := 2) C dYa_heedLimits_16 rfl ?_
        refine X_icmp_ge (tgt := 42) C dYa_heedLimits_17 (by decide) (fun c10 => ?_) (fun c10 => ?_)
        · rw [if_pos c10] at hR
          rw [← Option.some.inj hR]
          exact X_vret C hr (Nat.le_refl _) (Nat.le_refl _) dYa_heedLimits_42 ⟨rfl, rfl, rfl⟩
        · rw [if_neg c10] at hR
          refine X_aload_n C dYa_heedLimits_20 rfl ?_
          refine X_aload_n C dYa_heedLimits_21 rfl ?_
          have hq := o_bind hR
          clear hR
          obtain ⟨w11, hx15, hR⟩ := hq
          obtain ⟨fs12, he13, hv14⟩ := gq_e hx15
          refine X_get (k := 0) C oPl fwYa_143 he13 hv14 dYa_heedLimits_22 ?_
          refine X_iload_n C dYa_heedLimits_25 rfl ?_
          have hq := o_bind hR
          clear hR
          obtain ⟨a16, rfl, hR⟩ := hq
          have hq := o_bind hR
          clear hR
          obtain ⟨u17, hx18, hR⟩ := hq
          obtain ⟨n19, f20, he21, hi22, e23⟩ := ai_e hx18
          refine X_iald C rfl he21 hi22 dYa_heedLimits_26 ?_
          rw [← e23]
          refine X_aload_n C dYa_heedLimits_27 rfl ?_
          have hq := o_bind hR
          clear hR
          obtain ⟨w24, hx28, hR⟩ := hq
          obtain ⟨fs25, he26, hv27⟩ := gq_e hx28
          refine X_get (k := 1) C oPl fwYa_146 he26 hv27 dYa_heedLimits_28 ?_
          refine X_iload_n C dYa_heedLimits_31 rfl ?_
          have hq := o_bind hR
          clear hR
          obtain ⟨a29, rfl, hR⟩ := hq
          have hq := o_bind hR
          clear hR
          obtain ⟨u30, hx31, hR⟩ := hq
          obtain ⟨n32, f33, he34, hi35, e36⟩ := ai_e hx31
          refine X_iald C rfl he34 hi35 dYa_heedLimits_32 ?_
          rw [← e36]
          have hq := o_if hR
          clear hR
          obtain ⟨k38, hR⟩ := hq
          obtain ⟨fs39, he40⟩ := kc_e k38
          have hq := o_bind hR
          clear hR
          obtain ⟨r37, hr37, hR⟩ := hq
          refine X_callVk (As := [.int (u17), .int (u30)]) (rest := []) C (Ya_heed_c hr37) wYa_149 ⟨by decide, by decide⟩ ⟨Nat.le_refl _, Nat.le_refl _⟩ he40 oYa.2.1 rfl rfl (Nat.le_of_ble_eq_true rfl) dYa_heedLimits_33 ?_
          show X F G B _ 3 (r37.2) _ _ _ _ _ []
          refine X_iinc (v := x2 + 1) (lv' := [(2, .int (x2 + 1)), (0, .ref (o)), (1, .ref (a3))]) C dYa_heedLimits_36 rfl rfl (by decide) rfl ?_
          refine X_goto (tgt := 7) C dYa_heedLimits_39 (by decide) ?_
          refine X_sub (lv' := [(0, .ref (o)), (1, va_rf ((some (a3)))), (2, .int (x2 + 1))]) [1, 2, 0] rfl ?_
          exact (ih (some (a3)) (x2 + 1) _ _).2 hR
theorem Ya_heedLimits_c {l : Launch} {G : xG} {B sz : Nat} {o : Nat} {n : Nat} {y1 : Option Nat} {h : xH} {R : Int32 × xH} (hR : Ya_heedLimits_f n 0 o y1 0 h = some R) : xCon l yYa_heedLimits cYa_heedLimits 3 none 2 43 0 0 G B [.ref (o), va_rf (y1)] h sz (kP none R.2 sz) := xCon.of (by decide) (by simp [lg_sl, rf_cat, cat_i, cat_r, cat_l]) (fun F e C hr _ => X_sub (lv' := [(0, .ref (o)), (1, va_rf (y1))]) [0, 1] (by simp [lv_args, lv_pick, rf_cat, cat_i, cat_r, cat_l]) ((Ya_heedLimits_x C hr n y1 0 h R).1 hR))
def Ya_heedTests_t0 (f : Nat → Option Nat → Int32 → xH → Option (Int32 × xH)) (n : Nat) (o : Nat) (y1 : Option Nat) (x2 : Int32) (h : xH) : Option (Int32 × xH) := oel (y1) (some (0, h)) (fun a1 => f 7 (some (a1)) ((0 : Int32)) h)
def Ya_heedTests_t7 (f : Nat → Option Nat → Int32 → xH → Option (Int32 × xH)) (n : Nat) (o : Nat) (y1 : Option Nat) (x2 : Int32) (h : xH) : Option (Int32 × xH) := obd y1 (fun a3 => obd (gi h (a3) 7 6) (fun u4 => (if u4 ≤ x2 then some (0, h) else (if (3 : Int32) ≤ x2 then some (0, h) else obd (gq h (a3) 7 4) (fun w11 => obd w11 (fun a16 => obd (ai h (a16) 0 (x2)) (fun u17 => obd (gq h (a3) 7 4) (fun w24 => obd w24 (fun a29 => obd (ai h (a29) 0 (x2)) (fun u30 => (if (u17) / ((4 : Int32)) = 0 then obd (gq h (a3) 7 5) (fun w38 => obd w38 (fun a43 => obd (ai h (a43) 0 (x2)) (fun u44 => (if kc h (o) 3 = true then obd (Ya_heed_f n (o) (((u17) / ((4 : Int32))) + ((u30) - (u30) / ((4 : Int32)) * ((4 : Int32)))) (u44) h) (fun r51 => f 7 (some (a3)) (x2 + 1) r51.2) else none)))) else (if (u30) - (u30) / ((4 : Int32)) * ((4 : Int32)) = 0 then obd (gq h (a3) 7 5) (fun w56 => obd w56 (fun a61 => obd (ai h (a61) 0 (x2)) (fun u62 => (if kc h (o) 3 = true then obd (Ya_heed_f n (o) (((u17) / ((4 : Int32))) + ((u30) - (u30) / ((4 : Int32)) * ((4 : Int32)))) (u62) h) (fun r69 => f 7 (some (a3)) (x2 + 1) r69.2) else none)))) else obd (pf h (o) 3 8 (.int ((0 : Int32)))) (fun h73 => f 7 (some (a3)) (x2 + 1) h73)))))))))))))
def Ya_heedTests_f : Nat → Nat → Nat → Option Nat → Int32 → xH → Option (Int32 × xH)
  | 0 => fun _ _ _ _ _ => none
  | n + 1 => fun p o y1 x2 h => if p = 0 then Ya_heedTests_t0 (fun p y1 x2 h => Ya_heedTests_f n p o y1 x2 h) n o y1 x2 h else if p = 7 then Ya_heedTests_t7 (fun p y1 x2 h => Ya_heedTests_f n p o y1 x2 h) n o y1 x2 h else none
theorem Ya_heedTests_e0 (n : Nat) (o : Nat) (y1 : Option Nat) (x2 : Int32) (h : xH) : Ya_heedTests_f (n + 1) 0 o y1 x2 h = Ya_heedTests_t0 (fun p y1 x2 h => Ya_heedTests_f n p o y1 x2 h) n o y1 x2 h := by
  show (if 0 = 0 then Ya_heedTests_t0 (fun p y1 x2 h => Ya_heedTests_f n p o y1 x2 h) n o y1 x2 h else if 0 = 7 then Ya_heedTests_t7 (fun p y1 x2 h => Ya_heedTests_f n p o y1 x2 h) n o y1 x2 h else none) = _
  rw [if_pos rfl]
theorem Ya_heedTests_e7 (n : Nat) (o : Nat) (y1 : Option Nat) (x2 : Int32) (h : xH) : Ya_heedTests_f (n + 1) 7 o y1 x2 h = Ya_heedTests_t7 (fun p y1 x2 h => Ya_heedTests_f n p o y1 x2 h) n o y1 x2 h := by
  show (if 7 = 0 then Ya_heedTests_t0 (fun p y1 x2 h => Ya_heedTests_f n p o y1 x2 h) n o y1 x2 h else if 7 = 7 then Ya_heedTests_t7 (fun p y1 x2 h => Ya_heedTests_f n p o y1 x2 h) n o y1 x2 h else none) = _
  rw [if_neg (by decide), if_pos rfl]
set_option maxRecDepth 100000 in
set_option maxHeartbeats 8000000 in
theorem Ya_heedTests_x {F : xF} {G : xG} {B sz : Nat} {o : Nat} (C : xC F G B cYa_heedTests RYa 5 2 43 0 0) (hr : (xFM F).sig.returnType = none) : ∀ (n : Nat) (y1 : Option Nat) (x2 : Int32) (h : xH) (R : Int32 × xH), (Ya_heedTests_f n 0 o y1 x2 h = some R → X F G B (xZ F G B (kP none R.2 sz) 0 0) 5 h sz 0 0 0 [(0, .ref (o)), (1, va_rf (y1))] []) ∧ (Ya_heedTests_f n 7 o y1 x2 h = some R → X F G B (xZ F G B (kP none R.2 sz) 0 0) 5 h sz 0 0 7 [(0, .ref (o)), (1, va_rf (y1)), (2, .int (x2))] []) := by
  intro n
  induction n with
  | zero => exact fun _ _ _ _ => ⟨(fun hR => nomatch (show (none : Option _) = some _ from hR)), (fun hR => nomatch (show (none : Option _) = some _ from hR))⟩
  | succ n ih =>
    intro y1 x2 h R
    refine ⟨fun hR => ?_, fun hR => ?_⟩
    · rw [Ya_heedTests_e0] at hR
      unfold Ya_heedTests_t0 at hR
      refine X_aload_nq C dYa_heedTests_0 rfl ?_
      refine X_ifnonnullq (tgt := 5) C dYa_heedTests_1 (by decide) (fun a1 e2 => ?_) (fun e2 => ?_)
      · subst e2
        rw [oel_s] at hR
        refine X_iconst (v := 0) C dYa_heedTests_5 rfl ?_
        refine X_istore_n (lv' := [(2, .int ((0 : Int32))), (0, .ref (o)), (1, .ref (a1))]) C dYa_heedTests_6 (by decide) rfl ?_
        refine X_sub (lv' := [(0, .ref (o)), (1, va_rf ((some (a1)))), (2, .int ((0 : Int32)))]) [1, 2, 0] rfl ?_
        exact (ih (some (a1)) ((0 : Int32)) _ _).2 hR
      · subst e2
        rw [oel_n] at hR
        rw [← Option.some.inj hR]
        exact X_vret C hr (Nat.le_refl _) (Nat.le_refl _) dYa_heedTests_4 ⟨rfl, rfl, rfl⟩
    · rw [Ya_heedTests_e7] at hR
      unfold Ya_heedTests_t7 at hR
      refine X_iload_n C dYa_heedTests_7 rfl ?_
      refine X_aload_nq C dYa_heedTests_8 rfl ?_
      have hq := o_bind hR
      clear hR
      obtain ⟨a3, rfl, hR⟩ := hq
      have hq := o_bind hR
      clear hR
      obtain ⟨u4, hx8, hR⟩ := hq
      obtain ⟨fs5, he6, hv7⟩ := gi_e hx8
      refine X_get (k := 6) C oWa fwYa_153 he6 hv7 dYa_heedTests_9 ?_
      refine X_icmp_ge (tgt := 76) C dYa_heedTests_12 (by decide) (fun c9 => ?_) (fun c9 => ?_)
      · rw [if_pos c9] at hR
        rw [← Option.some.inj hR]
        exact X_vret C hr (Nat.le_refl _) (Nat.le_refl _) dYa_heedTests_76 ⟨rfl, rfl, rfl⟩
      · rw [if_neg c9] at hR
        refine X_iload_n C dYa_heedTests_15 rfl ?_
        refine X_iconst (v := 3) C dYa_heedTests_16 rfl ?_
        refine X_icmp_ge (tgt := 76) C dYa_heedTests_17 (by decide) (fun c10 => ?_) (fun c10 => ?_)
        · rw [if_pos c10] at hR
          rw [← Option.some.inj hR]
          exact X_vret C hr (Nat.le_refl _) (Nat.le_refl _) dYa_heedTests_76 ⟨rfl, rfl, rfl⟩
        · rw [if_neg c10] at hR
          refine X_aload_n C dYa_heedTests_20 rfl ?_
          have hq := o_bind hR
          clear hR
          obtain ⟨w11, hx15, hR⟩ := hq
          obtain ⟨fs12, he13, hv14⟩ := gq_e hx15
          refine X_get (k := 4) C oWa fwYa_158 he13 hv14 dYa_heedTests_21 ?_
          refine X_iload_n C dYa_heedTests_24 rfl ?_
          have hq := o_bind hR
          clear hR
          obtain ⟨a16, rfl, hR⟩ := hq
          have hq := o_bind hR
          clear hR
          obtain ⟨u17, hx18, hR⟩ := hq
          obtain ⟨n19, f20, he21, hi22, e23⟩ := ai_e hx18
          refine X_iald C rfl he21 hi22 dYa_heedTests_25 ?_
          rw [← e23]
          refine X_iconst (v := 4) C dYa_heedTests_26 rfl ?_
          refine X_idiv C dYa_heedTests_27 (by decide) ?_
          refine X_istore_n (lv' := [(3, .int ((u17) / ((4 : Int32)))), (0, .ref (o)), (1, .ref (a3)), (2, .int (x2))]) C dYa_heedTests_28 (by decide) rfl ?_
          refine X_aload_n C dYa_heedTests_29 rfl ?_
          have hq := o_bind hR
          clear hR
          obtain ⟨w24, hx28, hR⟩ := hq
          obtain ⟨fs25, he26, hv27⟩ := gq_e hx28
          refine X_get (k := 4) C oWa fwYa_158 he26 hv27 dYa_heedTests_30 ?_
          refine X_iload_n C dYa_heedTests_33 rfl ?_
          have hq := o_bind hR
          clear hR
          obtain ⟨a29, rfl, hR⟩ := hq
          have hq := o_bind hR
          clear hR
          obtain ⟨u30, hx31, hR⟩ := hq
          obtain ⟨n32, f33, he34, hi35, e36⟩ := ai_e hx31
          refine X_iald C rfl he34 hi35 dYa_heedTests_34 ?_
          rw [← e36]
          refine X_iconst (v := 4) C dYa_heedTests_35 rfl ?_
          refine X_irem C dYa_heedTests_36 (by decide) ?_
          refine X_istore (lv' := [(4, .int ((u30) - (u30) / ((4 : Int32)) * ((4 : Int32)))), (3, .int ((u17) / ((4 : Int32)))), (0, .ref (o)), (1, .ref (a3)), (2, .int (x2))]) C dYa_heedTests_37 (by decide) rfl ?_
          refine X_iload_n C dYa_heedTests_39 rfl ?_
          refine X_if_eq (tgt := 56) C dYa_heedTests_40 (by decide) (fun c37 => ?_) (fun c37 => ?_)
          · rw [if_pos c37] at hR
            refine X_aload_n C dYa_heedTests_56 rfl ?_
            refine X_iload_n C dYa_heedTests_57 rfl ?_
            refine X_iload C dYa_heedTests_58 rfl ?_
            refine X_iadd C dYa_heedTests_60 ?_
            refine X_aload_n C dYa_heedTests_61 rfl ?_
            have hq := o_bind hR
            clear hR
            obtain ⟨w38, hx42, hR⟩ := hq
            obtain ⟨fs39, he40, hv41⟩ := gq_e hx42
            refine X_get (k := 5) C oWa fwYa_161 he40 hv41 dYa_heedTests_62 ?_
            refine X_iload_n C dYa_heedTests_65 rfl ?_
            have hq := o_bind hR
            clear hR
            obtain ⟨a43, rfl, hR⟩ := hq
            have hq := o_bind hR
            clear hR
            obtain ⟨u44, hx45, hR⟩ := hq
            obtain ⟨n46, f47, he48, hi49, e50⟩ := ai_e hx45
            refine X_iald C rfl he48 hi49 dYa_heedTests_66 ?_
            rw [← e50]
            have hq := o_if hR
            clear hR
            obtain ⟨k52, hR⟩ := hq
            obtain ⟨fs53, he54⟩ := kc_e k52
            have hq := o_bind hR
            clear hR
            obtain ⟨r51, hr51, hR⟩ := hq
            refine X_callVk (As := [.int (((u17) / ((4 : Int32))) + ((u30) - (u30) / ((4 : Int32)) * ((4 : Int32)))), .int (u44)]) (rest := []) C (Ya_heed_c hr51) wYa_149 ⟨by decide, by decide⟩ ⟨Nat.le_refl _, Nat.le_refl _⟩ he54 oYa.2.1 rfl rfl (Nat.le_of_ble_eq_true rfl) dYa_heedTests_67 ?_
            show X F G B _ 5 (r51.2) _ _ _ _ _ []
            refine X_iinc (v := x2 + 1) (lv' := [(2, .int (x2 + 1)), (4, .int ((u30) - (u30) / ((4 : Int32)) * ((4 : Int32)))), (3, .int ((u17) / ((4 : Int32)))), (0, .ref (o)), (1, .ref (a3))]) C dYa_heedTests_70 rfl rfl (by decide) rfl ?_
            refine X_goto (tgt := 7) C dYa_heedTests_73 (by decide) ?_
            refine X_sub (lv' := [(0, .ref (o)), (1, va_rf ((some (a3)))), (2, .int (x2 + 1))]) [3, 4, 0] rfl ?_
            exact (ih (some (a3)) (x2 + 1) _ _).2 hR
          · rw [if_neg c37] at hR
            refine X_iload C dYa_heedTests_43 rfl ?_
            refine X_if_eq (tgt := 56) C dYa_heedTests_45 (by decide) (fun c55 => ?_) (fun c55 => ?_)
            · rw [if_pos c55] at hR
              refine X_aload_n C dYa_heedTests_56 rfl ?_
              refine X_iload_n C dYa_heedTests_57 rfl ?_
              refine X_iload C dYa_heedTests_58 rfl ?_
              refine X_iadd C dYa_heedTests_60 ?_
              refine X_aload_n C dYa_heedTests_61 rfl ?_
              have hq := o_bind hR
              clear hR
              obtain ⟨w56, hx60, hR⟩ := hq
              obtain ⟨fs57, he58, hv59⟩ := gq_e hx60
              refine X_get (k := 5) C oWa fwYa_161 he58 hv59 dYa_heedTests_62 ?_
              refine X_iload_n C dYa_heedTests_65 rfl ?_
              have hq := o_bind hR
              clear hR
              obtain ⟨a61, rfl, hR⟩ := hq
              have hq := o_bind hR
              clear hR
              obtain ⟨u62, hx63, hR⟩ := hq
              obtain ⟨n64, f65, he66, hi67, e68⟩ := ai_e hx63
              refine X_iald C rfl he66 hi67 dYa_heedTests_66 ?_
              rw [← e68]
              have hq := o_if hR
              clear hR
              obtain ⟨k70, hR⟩ := hq
              obtain ⟨fs71, he72⟩ := kc_e k70
              have hq := o_bind hR
              clear hR
              obtain ⟨r69, hr69, hR⟩ := hq
              refine X_callVk (As := [.int (((u17) / ((4 : Int32))) + ((u30) - (u30) / ((4 : Int32)) * ((4 : Int32)))), .int (u62)]) (rest := []) C (Ya_heed_c hr69) wYa_149 ⟨by decide, by decide⟩ ⟨Nat.le_refl _, Nat.le_refl _⟩ he72 oYa.2.1 rfl rfl (Nat.le_of_ble_eq_true rfl) dYa_heedTests_67 ?_
              show X F G B _ 5 (r69.2) _ _ _ _ _ []
              refine X_iinc (v := x2 + 1) (lv' := [(2, .int (x2 + 1)), (4, .int ((u30) - (u30) / ((4 : Int32)) * ((4 : Int32)))), (3, .int ((u17) / ((4 : Int32)))), (0, .ref (o)), (1, .ref (a3))]) C dYa_heedTests_70 rfl rfl (by decide) rfl ?_
              refine X_goto (tgt := 7) C dYa_heedTests_73 (by decide) ?_
              refine X_sub (lv' := [(0, .ref (o)), (1, va_rf ((some (a3)))), (2, .int (x2 + 1))]) [3, 4, 0] rfl ?_
              exact (ih (some (a3)) (x2 + 1) _ _).2 hR
            · rw [if_neg c55] at hR
              refine X_aload_n C dYa_heedTests_48 rfl ?_
              refine X_iconst (v := 0) C dYa_heedTests_49 rfl ?_
              have hq := o_bind hR
              clear hR
              obtain ⟨h73, hh74, hR⟩ := hq
              obtain ⟨fs75, he76, hl77, e78⟩ := pf_e hh74
              refine X_put (k := 8) C oYa fwYa_23 rfl he76 rfl rfl hl77 dYa_heedTests_50 ?_
              rw [← e78]
              refine X_goto (tgt := 70) C dYa_heedTests_53 (by decide) ?_
              refine X_iinc (v := x2 + 1) (lv' := [(2, .int (x2 + 1)), (4, .int ((u30) - (u30) / ((4 : Int32)) * ((4 : Int32)))), (3, .int ((u17) / ((4 : Int32)))), (0, .ref (o)), (1, .ref (a3))]) C dYa_heedTests_70 rfl rfl (by decide) rfl ?_
              refine X_goto (tgt := 7) C dYa_heedTests_73 (by decide) ?_
              refine X_sub (lv' := [(0, .ref (o)), (1, va_rf ((some (a3)))), (2, .int (x2 + 1))]) [3, 4, 0] rfl ?_
              exact (ih (some (a3)) (x2 + 1) _ _).2 hR
theorem Ya_heedTests_c {l : Launch} {G : xG} {B sz : Nat} {o : Nat} {n : Nat} {y1 : Option Nat} {h : xH} {R : Int32 × xH} (hR : Ya_heedTests_f n 0 o y1 0 h = some R) : xCon l yYa_heedTests cYa_heedTests 5 none 2 43 0 0 G B [.ref (o), va_rf (y1)] h sz (kP none R.2 sz) := xCon.of (by decide) (by simp [lg_sl, rf_cat, cat_i, cat_r, cat_l]) (fun F e C hr _ => X_sub (lv' := [(0, .ref (o)), (1, va_rf (y1))]) [0, 1] (by simp [lv_args, lv_pick, rf_cat, cat_i, cat_r, cat_l]) ((Ya_heedTests_x C hr n y1 0 h R).1 hR))
def Ya_findGreatest_t0 (f : Nat → Int32 → Int32 → xH → Option (Int32 × xH)) (n : Nat) (o : Nat) (x1 : Int32) (x2 : Int32) (h : xH) : Option (Int32 × xH) := obd (gq h (o) 3 9) (fun w1 => obd (J7_fill_53178_f n 0 (w1) ((0 : Int32)) 0 0 h) (fun r6 => obd (pf r6.2 (o) 3 8 (.int ((1 : Int32)))) (fun h7 => f 15 ((0 : Int32)) 0 h7)))
def Ya_findGreatest_t15 (f : Nat → Int32 → Int32 → xH → Option (Int32 × xH)) (n : Nat) (o : Nat) (x1 : Int32) (x2 : Int32) (h : xH) : Option (Int32 × xH) := obd (gi h (o) 3 1) (fun u13 => (if u13 ≤ x1 then some (0, h) else f 25 (x1) ((0 : Int32)) h))
def Ya_findGreatest_t25 (f : Nat → Int32 → Int32 → xH → Option (Int32 × xH)) (n : Nat) (o : Nat) (x1 : Int32) (x2 : Int32) (h : xH) : Option (Int32 × xH) := (if (6 : Int32) ≤ x2 then f 49 (x1) ((0 : Int32)) h else (if kc h (o) 3 = true then obd (Ya_placeAt_f n (o) (x1) (x2) h) (fun r20 => bnd (r20.1) (fun w21 => (if kc r20.2 (o) 3 = true then obd (Ya_heedLimits_f n 0 (o) (w21) 0 r20.2) (fun r23 => f 25 (x1) (x2 + 1) r23.2) else none))) else none))
def Ya_findGreatest_t49 (f : Nat → Int32 → Int32 → xH → Option (Int32 × xH)) (n : Nat) (o : Nat) (x1 : Int32) (x2 : Int32) (h : xH) : Option (Int32 × xH) := (if (12 : Int32) ≤ x2 then f 15 (x1 + 1) 0 h else (if kc h (o) 3 = true then obd (Ya_wayAt_f n (o) (x1) (x2) h) (fun r31 => bnd (r31.1) (fun w32 => (if kc r31.2 (o) 3 = true then obd (Ya_heedTests_f n 0 (o) (w32) 0 r31.2) (fun r34 => f 49 (x1) (x2 + 1) r34.2) else none))) else none))
def Ya_findGreatest_f : Nat → Nat → Nat → Int32 → Int32 → xH → Option (Int32 × xH)
  | 0 => fun _ _ _ _ _ => none
  | n + 1 => fun p o x1 x2 h => if p = 0 then Ya_findGreatest_t0 (fun p x1 x2 h => Ya_findGreatest_f n p o x1 x2 h) n o x1 x2 h else if p = 15 then Ya_findGreatest_t15 (fun p x1 x2 h => Ya_findGreatest_f n p o x1 x2 h) n o x1 x2 h else if p = 25 then Ya_findGreatest_t25 (fun p x1 x2 h => Ya_findGreatest_f n p o x1 x2 h) n o x1 x2 h else if p = 49 then Ya_findGreatest_t49 (fun p x1 x2 h => Ya_findGreatest_f n p o x1 x2 h) n o x1 x2 h else none
theorem Ya_findGreatest_e0 (n : Nat) (o : Nat) (x1 : Int32) (x2 : Int32) (h : xH) : Ya_findGreatest_f (n + 1) 0 o x1 x2 h = Ya_findGreatest_t0 (fun p x1 x2 h => Ya_findGreatest_f n p o x1 x2 h) n o x1 x2 h := by
  show (if 0 = 0 then Ya_findGreatest_t0 (fun p x1 x2 h => Ya_findGreatest_f n p o x1 x2 h) n o x1 x2 h else if 0 = 15 then Ya_findGreatest_t15 (fun p x1 x2 h => Ya_findGreatest_f n p o x1 x2 h) n o x1 x2 h else if 0 = 25 then Ya_findGreatest_t25 (fun p x1 x2 h => Ya_findGreatest_f n p o x1 x2 h) n o x1 x2 h else if 0 = 49 then Ya_findGreatest_t49 (fun p x1 x2 h => Ya_findGreatest_f n p o x1 x2 h) n o x1 x2 h else none) = _
  rw [if_pos rfl]
theorem Ya_findGreatest_e15 (n : Nat) (o : Nat) (x1 : Int32) (x2 : Int32) (h : xH) : Ya_findGreatest_f (n + 1) 15 o x1 x2 h = Ya_findGreatest_t15 (fun p x1 x2 h => Ya_findGreatest_f n p o x1 x2 h) n o x1 x2 h := by
  show (if 15 = 0 then Ya_findGreatest_t0 (fun p x1 x2 h => Ya_findGreatest_f n p o x1 x2 h) n o x1 x2 h else if 15 = 15 then Ya_findGreatest_t15 (fun p x1 x2 h => Ya_findGreatest_f n p o x1 x2 h) n o x1 x2 h else if 15 = 25 then Ya_findGreatest_t25 (fun p x1 x2 h => Ya_findGreatest_f n p o x1 x2 h) n o x1 x2 h else if 15 = 49 then Ya_findGreatest_t49 (fun p x1 x2 h => Ya_findGreatest_f n p o x1 x2 h) n o x1 x2 h else none) = _
  rw [if_neg (by decide), if_pos rfl]
theorem Ya_findGreatest_e25 (n : Nat) (o : Nat) (x1 : Int32) (x2 : Int32) (h : xH) : Ya_findGreatest_f (n + 1) 25 o x1 x2 h = Ya_findGreatest_t25 (fun p x1 x2 h => Ya_findGreatest_f n p o x1 x2 h) n o x1 x2 h := by
  show (if 25 = 0 then Ya_findGreatest_t0 (fun p x1 x2 h => Ya_findGreatest_f n p o x1 x2 h) n o x1 x2 h else if 25 = 15 then Ya_findGreatest_t15 (fun p x1 x2 h => Ya_findGreatest_f n p o x1 x2 h) n o x1 x2 h else if 25 = 25 then Ya_findGreatest_t25 (fun p x1 x2 h => Ya_findGreatest_f n p o x1 x2 h) n o x1 x2 h else if 25 = 49 then Ya_findGreatest_t49 (fun p x1 x2 h => Ya_findGreatest_f n p o x1 x2 h) n o x1 x2 h else none) = _
  rw [if_neg (by decide), if_neg (by decide), if_pos rfl]
theorem Ya_findGreatest_e49 (n : Nat) (o : Nat) (x1 : Int32) (x2 : Int32) (h : xH) : Ya_findGreatest_f (n + 1) 49 o x1 x2 h = Ya_findGreatest_t49 (fun p x1 x2 h => Ya_findGreatest_f n p o x1 x2 h) n o x1 x2 h := by
  show (if 49 = 0 then Ya_findGreatest_t0 (fun p x1 x2 h => Ya_findGreatest_f n p o x1 x2 h) n o x1 x2 h else if 49 = 15 then Ya_findGreatest_t15 (fun p x1 x2 h => Ya_findGreatest_f n p o x1 x2 h) n o x1 x2 h else if 49 = 25 then Ya_findGreatest_t25 (fun p x1 x2 h => Ya_findGreatest_f n p o x1 x2 h) n o x1 x2 h else if 49 = 49 then Ya_findGreatest_t49 (fun p x1 x2 h => Ya_findGreatest_f n p o x1 x2 h) n o x1 x2 h else none) = _
  rw [if_neg (by decide), if_neg (by decide), if_neg (by decide), if_pos rfl]
set_option maxRecDepth 100000 in
set_option maxHeartbeats 8000000 in
theorem Ya_findGreatest_x {F : xF} {G : xG} {B sz : Nat} {o : Nat} (C : xC F G B cYa_findGreatest RYa 3 3 67 0 0) (hr : (xFM F).sig.returnType = none) : ∀ (n : Nat) (x1 : Int32) (x2 : Int32) (h : xH) (R : Int32 × xH), (Ya_findGreatest_f n 0 o x1 x2 h = some R → X F G B (xZ F G B (kP none R.2 sz) 0 0) 3 h sz 0 0 0 [(0, .ref (o))] []) ∧ (Ya_findGreatest_f n 15 o x1 x2 h = some R → X F G B (xZ F G B (kP none R.2 sz) 0 0) 3 h sz 0 0 15 [(0, .ref (o)), (1, .int (x1))] []) ∧ (Ya_findGreatest_f n 25 o x1 x2 h = some R → X F G B (xZ F G B (kP none R.2 sz) 0 0) 3 h sz 0 0 25 [(0, .ref (o)), (1, .int (x1)), (2, .int (x2))] []) ∧ (Ya_findGreatest_f n 49 o x1 x2 h = some R → X F G B (xZ F G B (kP none R.2 sz) 0 0) 3 h sz 0 0 49 [(0, .ref (o)), (1, .int (x1)), (2, .int (x2))] []) := by
  intro n
  induction n with
  | zero => exact fun _ _ _ _ => ⟨(fun hR => nomatch (show (none : Option _) = some _ from hR)), (fun hR => nomatch (show (none : Option _) = some _ from hR)), (fun hR => nomatch (show (none : Option _) = some _ from hR)), (fun hR => nomatch (show (none : Option _) = some _ from hR))⟩
  | succ n ih =>
    intro x1 x2 h R
    refine ⟨fun hR => ?_, fun hR => ?_, fun hR => ?_, fun hR => ?_⟩
    · rw [Ya_findGreatest_e0] at hR
      unfold Ya_findGreatest_t0 at hR
      refine X_aload_n C dYa_findGreatest_0 rfl ?_
      have hq := o_bind hR
      clear hR
      obtain ⟨w1, hx5, hR⟩ := hq
      obtain ⟨fs2, he3, hv4⟩ := gq_e hx5
      refine X_get (k := 9) C oYa fwYa_27 he3 hv4 dYa_findGreatest_1 ?_
      refine X_iconst (v := 0) C dYa_findGreatest_4 rfl ?_
      have hq := o_bind hR
      clear hR
      obtain ⟨r6, hr6, hR⟩ := hq
      refine X_callSk (As := [va_rf (w1), .int ((0 : Int32))]) (rest := []) C (J7_fill_53178_c hr6) wYa_120 ⟨by decide, by decide⟩ ⟨Nat.le_refl _, Nat.le_refl _⟩ rfl rfl (Nat.le_of_ble_eq_true rfl) dYa_findGreatest_5 ?_
      show X F G B _ 3 (r6.2) _ _ _ _ _ []
      refine X_aload_n C dYa_findGreatest_8 rfl ?_
      refine X_iconst (v := 1) C dYa_findGreatest_9 rfl ?_
      have hq := o_bind hR
      clear hR
      obtain ⟨h7, hh8, hR⟩ := hq
      obtain ⟨fs9, he10, hl11, e12⟩ := pf_e hh8
      refine X_put (k := 8) C oYa fwYa_23 rfl he10 rfl rfl hl11 dYa_findGreatest_10 ?_
      rw [← e12]
      refine X_iconst (v := 0) C dYa_findGreatest_13 rfl ?_
      refine X_istore_n (lv' := [(1, .int ((0 : Int32))), (0, .ref (o))]) C dYa_findGreatest_14 (by decide) rfl ?_
      refine X_sub (lv' := [(0, .ref (o)), (1, .int ((0 : Int32)))]) [1, 0] rfl ?_
      exact (ih ((0 : Int32)) 0 _ _).2.1 hR
    · rw [Ya_findGreatest_e15] at hR
      unfold Ya_findGreatest_t15 at hR
      refine X_iload_n C dYa_findGreatest_15 rfl ?_
      refine X_aload_n C dYa_findGreatest_16 rfl ?_
      have hq := o_bind hR
      clear hR
      obtain ⟨u13, hx17, hR⟩ := hq
      obtain ⟨fs14, he15, hv16⟩ := gi_e hx17
      refine X_get (k := 1) C oYa fwYa_43 he15 hv16 dYa_findGreatest_17 ?_
      refine X_icmp_ge (tgt := 77) C dYa_findGreatest_20 (by decide) (fun c18 => ?_) (fun c18 => ?_)
      · rw [if_pos c18] at hR
        rw [← Option.some.inj hR]
        exact X_vret C hr (Nat.le_refl _) (Nat.le_refl _) dYa_findGreatest_77 ⟨rfl, rfl, rfl⟩
      · rw [if_neg c18] at hR
        refine X_iconst (v := 0) C dYa_findGreatest_23 rfl ?_
        refine X_istore_n (lv' := [(2, .int ((0 : Int32))), (0, .ref (o)), (1, .int (x1))]) C dYa_findGreatest_24 (by decide) rfl ?_
        refine X_sub (lv' := [(0, .ref (o)), (1, .int (x1)), (2, .int ((0 : Int32)))]) [1, 2, 0] rfl ?_
        exact (ih (x1) ((0 : Int32)) _ _).2.2.1 hR
    · rw [Ya_findGreatest_e25] at hR
      unfold Ya_findGreatest_t25 at hR
      refine X_iload_n C dYa_findGreatest_25 rfl ?_
      refine X_bipush (v := 6) C dYa_findGreatest_26 (by decide) ?_
      refine X_icmp_ge (tgt := 47) C dYa_findGreatest_28 (by decide) (fun c19 => ?_) (fun c19 => ?_)
      · rw [if_pos c19] at hR
        refine X_iconst (v := 0) C dYa_findGreatest_47 rfl ?_
        refine X_istore_n (lv' := [(2, .int ((0 : Int32))), (0, .ref (o)), (1, .int (x1))]) C dYa_findGreatest_48 (by decide) rfl ?_
        refine X_sub (lv' := [(0, .ref (o)), (1, .int (x1)), (2, .int ((0 : Int32)))]) [1, 2, 0] rfl ?_
        exact (ih (x1) ((0 : Int32)) _ _).2.2.2 hR
      · rw [if_neg c19] at hR
        refine X_aload_n C dYa_findGreatest_31 rfl ?_
        refine X_aload_n C dYa_findGreatest_32 rfl ?_
        refine X_iload_n C dYa_findGreatest_33 rfl ?_
        refine X_iload_n C dYa_findGreatest_34 rfl ?_
        have hq := o_if hR
        clear hR
        obtain ⟨k27, hR⟩ := hq
        obtain ⟨fs28, he29⟩ := kc_e k27
        have hq := o_bind hR
        clear hR
        obtain ⟨r20, hr20, hR⟩ := hq
        refine X_callVk (As := [.int (x1), .int (x2)]) (rest := [.ref (o)]) C (Ya_placeAt_c hr20) wYa_68 ⟨by decide, by decide⟩ ⟨Nat.le_refl _, Nat.le_refl _⟩ he29 oYa.2.1 rfl rfl (Nat.le_of_ble_eq_true rfl) dYa_findGreatest_35 ?_
        show X F G B _ 3 (r20.2) _ _ _ _ _ [va_rf (r20.1), .ref (o)]
        have hq := b_bnd hR
        clear hR
        obtain ⟨w21, e22, hR⟩ := hq
        rw [← e22]
        have hq := o_if hR
        clear hR
        obtain ⟨k24, hR⟩ := hq
        obtain ⟨fs25, he26⟩ := kc_e k24
        have hq := o_bind hR
        clear hR
        obtain ⟨r23, hr23, hR⟩ := hq
        refine X_callVk (As := [va_rf (w21)]) (rest := []) C (Ya_heedLimits_c hr23) wYa_126 ⟨by decide, by decide⟩ ⟨Nat.le_refl _, Nat.le_refl _⟩ he26 oYa.2.1 rfl rfl (Nat.le_of_ble_eq_true rfl) dYa_findGreatest_38 ?_
        show X F G B _ 3 (r23.2) _ _ _ _ _ []
        refine X_iinc (v := x2 + 1) (lv' := [(2, .int (x2 + 1)), (0, .ref (o)), (1, .int (x1))]) C dYa_findGreatest_41 rfl rfl (by decide) rfl ?_
        refine X_goto (tgt := 25) C dYa_findGreatest_44 (by decide) ?_
        refine X_sub (lv' := [(0, .ref (o)), (1, .int (x1)), (2, .int (x2 + 1))]) [1, 2, 0] rfl ?_
        exact (ih (x1) (x2 + 1) _ _).2.2.1 hR
    · rw [Ya_findGreatest_e49] at hR
      unfold Ya_findGreatest_t49 at hR
      refine X_iload_n C dYa_findGreatest_49 rfl ?_
      refine X_bipush (v := 12) C dYa_findGreatest_50 (by decide) ?_
      refine X_icmp_ge (tgt := 71) C dYa_findGreatest_52 (by decide) (fun c30 => ?_) (fun c30 => ?_)
      · rw [if_pos c30] at hR
        refine X_iinc (v := x1 + 1) (lv' := [(1, .int (x1 + 1)), (0, .ref (o)), (2, .int (x2))]) C dYa_findGreatest_71 rfl rfl (by decide) rfl ?_
        refine X_goto (tgt := 15) C dYa_findGreatest_74 (by decide) ?_
        refine X_sub (lv' := [(0, .ref (o)), (1, .int (x1 + 1))]) [1, 0] rfl ?_
        exact (ih (x1 + 1) 0 _ _).2.1 hR
      · rw [if_neg c30] at hR
        refine X_aload_n C dYa_findGreatest_55 rfl ?_
        refine X_aload_n C dYa_findGreatest_56 rfl ?_
        refine X_iload_n C dYa_findGreatest_57 rfl ?_
        refine X_iload_n C dYa_findGreatest_58 rfl ?_
        have hq := o_if hR
        clear hR
        obtain ⟨k38, hR⟩ := hq
        obtain ⟨fs39, he40⟩ := kc_e k38
        have hq := o_bind hR
        clear hR
        obtain ⟨r31, hr31, hR⟩ := hq
        refine X_callVk (As := [.int (x1), .int (x2)]) (rest := [.ref (o)]) C (Ya_wayAt_c hr31) wYa_130 ⟨by decide, by decide⟩ ⟨Nat.le_refl _, Nat.le_refl _⟩ he40 oYa.2.1 rfl rfl (Nat.le_of_ble_eq_true rfl) dYa_findGreatest_59 ?_
        show X F G B _ 3 (r31.2) _ _ _ _ _ [va_rf (r31.1), .ref (o)]
        have hq := b_bnd hR
        clear hR
        obtain ⟨w32, e33, hR⟩ := hq
        rw [← e33]
        have hq := o_if hR
        clear hR
        obtain ⟨k35, hR⟩ := hq
        obtain ⟨fs36, he37⟩ := kc_e k35
        have hq := o_bind hR
        clear hR
        obtain ⟨r34, hr34, hR⟩ := hq
        refine X_callVk (As := [va_rf (w32)]) (rest := []) C (Ya_heedTests_c hr34) wYa_134 ⟨by decide, by decide⟩ ⟨Nat.le_refl _, Nat.le_refl _⟩ he37 oYa.2.1 rfl rfl (Nat.le_of_ble_eq_true rfl) dYa_findGreatest_62 ?_
        show X F G B _ 3 (r34.2) _ _ _ _ _ []
        refine X_iinc (v := x2 + 1) (lv' := [(2, .int (x2 + 1)), (0, .ref (o)), (1, .int (x1))]) C dYa_findGreatest_65 rfl rfl (by decide) rfl ?_
        refine X_goto (tgt := 49) C dYa_findGreatest_68 (by decide) ?_
        refine X_sub (lv' := [(0, .ref (o)), (1, .int (x1)), (2, .int (x2 + 1))]) [1, 2, 0] rfl ?_
        exact (ih (x1) (x2 + 1) _ _).2.2.2 hR
theorem Ya_findGreatest_c {l : Launch} {G : xG} {B sz : Nat} {o : Nat} {n : Nat} {h : xH} {R : Int32 × xH} (hR : Ya_findGreatest_f n 0 o 0 0 h = some R) : xCon l yYa_findGreatest cYa_findGreatest 3 none 3 67 0 0 G B [.ref (o)] h sz (kP none R.2 sz) := xCon.of (by decide) (by exact Nat.le_of_ble_eq_true rfl) (fun F e C hr _ => X_sub (lv' := [(0, .ref (o))]) [0] rfl ((Ya_findGreatest_x C hr n 0 0 h R).1 hR))
