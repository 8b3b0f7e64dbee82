def Lr_size_f (n : Nat) (o : Nat)  (h : xH) : Option (Int32 × xH) := obd (gq h (o) 9 0) (fun w1 => obd w1 (fun a6 => obd (al h (a6) 1) (fun u7 => some (u7, h))))
set_option maxRecDepth 100000 in
set_option maxHeartbeats 8000000 in
theorem Lr_size_x {F : xF} {G : xG} {B sz : Nat} {o : Nat} (C : xC F G B cLr_size RLr 1 0 0 0 0) (hr : (xFM F).sig.returnType = (some .int)) {n : Nat} {h : xH} {R : Int32 × xH} (hR : Lr_size_f n o  h = some R) : X F G B (xZ F G B (kP (some (.int R.1)) R.2 sz) 0 0) 1 h sz 0 0 0 [(0, .ref (o))] [] := by
  unfold Lr_size_f at hR
  refine X_aload_n C dLr_size_0 rfl ?_
  have hq := o_bind hR
  clear hR
  obtain ⟨w1, hx5, hR⟩ := hq
  obtain ⟨fs2, he3, hv4⟩ := gq_e hx5
  refine X_get (k := 0) C oLr fwLr_7 he3 hv4 dLr_size_1 ?_
  have hq := o_bind hR
  clear hR
  obtain ⟨a6, rfl, hR⟩ := hq
  have hq := o_bind hR
  clear hR
  obtain ⟨u7, hx8, hR⟩ := hq
  obtain ⟨v9, he10, e11⟩ := al_e hx8
  refine X_alen C rfl he10 e11 dLr_size_4 ?_
  rw [← Option.some.inj hR]
  exact X_iret C hr (Nat.le_refl _) (Nat.le_refl _) dLr_size_5 ⟨rfl, rfl, rfl⟩
theorem Lr_size_c {l : Launch} {G : xG} {B sz : Nat} {o : Nat} {n : Nat} {h : xH} {R : Int32 × xH} (hR : Lr_size_f n o  h = some R) : xCon l yLr_size cLr_size 1 (some .int) 0 0 0 0 G B [.ref (o)] h sz (kP (some (.int R.1)) R.2 sz) := xCon.of (by decide) (by exact Nat.le_of_ble_eq_true rfl) (fun F e C hr _ => X_sub (lv' := [(0, .ref (o))]) [0] rfl (Lr_size_x C hr hR))
def Pl_heft_f (n : Nat) (o : Nat)  (h : xH) : Option (Int32 × xH) := obd (gi h (o) 6 2) (fun u1 => some (((3 : Int32)) + (u1), h))
set_option maxRecDepth 100000 in
set_option maxHeartbeats 8000000 in
theorem Pl_heft_x {F : xF} {G : xG} {B sz : Nat} {o : Nat} (C : xC F G B cPl_heft RPl 1 0 0 0 0) (hr : (xFM F).sig.returnType = (some .int)) {n : Nat} {h : xH} {R : Int32 × xH} (hR : Pl_heft_f n o  h = some R) : X F G B (xZ F G B (kP (some (.int R.1)) R.2 sz) 0 0) 1 h sz 0 0 0 [(0, .ref (o))] [] := by
  unfold Pl_heft_f at hR
  refine X_iconst (v := 3) C dPl_heft_0 rfl ?_
  refine X_aload_n C dPl_heft_1 rfl ?_
  have hq := o_bind hR
  clear hR
  obtain ⟨u1, hx5, hR⟩ := hq
  obtain ⟨fs2, he3, hv4⟩ := gi_e hx5
  refine X_get (k := 2) C oPl fwPl_25 he3 hv4 dPl_heft_2 ?_
  refine X_iadd C dPl_heft_5 ?_
  rw [← Option.some.inj hR]
  exact X_iret C hr (Nat.le_refl _) (Nat.le_refl _) dPl_heft_6 ⟨rfl, rfl, rfl⟩
theorem Pl_heft_c {l : Launch} {G : xG} {B sz : Nat} {o : Nat} {n : Nat} {h : xH} {R : Int32 × xH} (hR : Pl_heft_f n o  h = some R) : xCon l yPl_heft cPl_heft 1 (some .int) 0 0 0 0 G B [.ref (o)] h sz (kP (some (.int R.1)) R.2 sz) := xCon.of (by decide) (by exact Nat.le_of_ble_eq_true rfl) (fun F e C hr _ => X_sub (lv' := [(0, .ref (o))]) [0] rfl (Pl_heft_x C hr hR))
def Ro_heft_f (n : Nat) (o : Nat)  (h : xH) : Option (Int32 × xH) := some (((-12) : Int32), h)
set_option maxRecDepth 100000 in
set_option maxHeartbeats 8000000 in
theorem Ro_heft_x {F : xF} {G : xG} {B sz : Nat} {o : Nat} (C : xC F G B cRo_heft RRo 1 0 0 0 0) (hr : (xFM F).sig.returnType = (some .int)) {n : Nat} {h : xH} {R : Int32 × xH} (hR : Ro_heft_f n o  h = some R) : X F G B (xZ F G B (kP (some (.int R.1)) R.2 sz) 0 0) 1 h sz 0 0 0 [(0, .ref (o))] [] := by
  unfold Ro_heft_f at hR
  refine X_bipush (v := (-12)) C dRo_heft_0 (by decide) ?_
  rw [← Option.some.inj hR]
  exact X_iret C hr (Nat.le_refl _) (Nat.le_refl _) dRo_heft_2 ⟨rfl, rfl, rfl⟩
theorem Ro_heft_c {l : Launch} {G : xG} {B sz : Nat} {o : Nat} {n : Nat} {h : xH} {R : Int32 × xH} (hR : Ro_heft_f n o  h = some R) : xCon l yRo_heft cRo_heft 1 (some .int) 0 0 0 0 G B [.ref (o)] h sz (kP (some (.int R.1)) R.2 sz) := xCon.of (by decide) (by exact Nat.le_of_ble_eq_true rfl) (fun F e C hr _ => X_sub (lv' := [(0, .ref (o))]) [0] rfl (Ro_heft_x C hr hR))
def Sr_size_f (n : Nat) (o : Nat)  (h : xH) : Option (Int32 × xH) := obd (gq h (o) 8 0) (fun w1 => obd w1 (fun a6 => obd (al h (a6) 3) (fun u7 => some (u7, h))))
set_option maxRecDepth 100000 in
set_option maxHeartbeats 8000000 in
theorem Sr_size_x {F : xF} {G : xG} {B sz : Nat} {o : Nat} (C : xC F G B cSr_size RSr 1 0 0 0 0) (hr : (xFM F).sig.returnType = (some .int)) {n : Nat} {h : xH} {R : Int32 × xH} (hR : Sr_size_f n o  h = some R) : X F G B (xZ F G B (kP (some (.int R.1)) R.2 sz) 0 0) 1 h sz 0 0 0 [(0, .ref (o))] [] := by
  unfold Sr_size_f at hR
  refine X_aload_n C dSr_size_0 rfl ?_
  have hq := o_bind hR
  clear hR
  obtain ⟨w1, hx5, hR⟩ := hq
  obtain ⟨fs2, he3, hv4⟩ := gq_e hx5
  refine X_get (k := 0) C oSr fwSr_7 he3 hv4 dSr_size_1 ?_
  have hq := o_bind hR
  clear hR
  obtain ⟨a6, rfl, hR⟩ := hq
  have hq := o_bind hR
  clear hR
  obtain ⟨u7, hx8, hR⟩ := hq
  obtain ⟨v9, he10, e11⟩ := al_e hx8
  refine X_alen C rfl he10 e11 dSr_size_4 ?_
  rw [← Option.some.inj hR]
  exact X_iret C hr (Nat.le_refl _) (Nat.le_refl _) dSr_size_5 ⟨rfl, rfl, rfl⟩
theorem Sr_size_c {l : Launch} {G : xG} {B sz : Nat} {o : Nat} {n : Nat} {h : xH} {R : Int32 × xH} (hR : Sr_size_f n o  h = some R) : xCon l ySr_size cSr_size 1 (some .int) 0 0 0 0 G B [.ref (o)] h sz (kP (some (.int R.1)) R.2 sz) := xCon.of (by decide) (by exact Nat.le_of_ble_eq_true rfl) (fun F e C hr _ => X_sub (lv' := [(0, .ref (o))]) [0] rfl (Sr_size_x C hr hR))
def St_fits_f (n : Nat) (o : Nat) (x1 : Int32) (x2 : Int32) (h : xH) : Option (Int32 × xH) := (if x2 = ((-1) : Int32) then some ((1 : Int32), h) else (if x1 < 0 then some ((0 : Int32), h) else obd (gq h (o) 2 1) (fun w3 => obd w3 (fun a8 => obd (al h (a8) 0) (fun u9 => (if u9 ≤ x1 then some ((0 : Int32), h) else obd (gq h (o) 2 1) (fun w15 => obd w15 (fun a20 => obd (ai h (a20) 0 (x1)) (fun u21 => (if u21 = x2 then some ((1 : Int32), h) else some ((0 : Int32), h)))))))))))
set_option maxRecDepth 100000 in
set_option maxHeartbeats 8000000 in
theorem St_fits_x {F : xF} {G : xG} {B sz : Nat} {o : Nat} (C : xC F G B cSt_fits RSt 3 0 0 0 0) (hr : (xFM F).sig.returnType = (some .boolean)) {n : Nat} {x1 : Int32} {x2 : Int32} {h : xH} {R : Int32 × xH} (hR : St_fits_f n o x1 x2 h = some R) : X F G B (xZ F G B (kP (some (.int R.1)) R.2 sz) 0 0) 3 h sz 0 0 0 [(0, .ref (o)), (1, .int (x1)), (2, .int (x2))] [] := by
  unfold St_fits_f at hR
  refine X_iload_n C dSt_fits_0 rfl ?_
  refine X_iconst (v := (-1)) C dSt_fits_1 rfl ?_
  refine X_icmp_eq (tgt := 28) C dSt_fits_2 (by decide) (fun c1 => ?_) (fun c1 => ?_)
  · rw [if_pos c1] at hR
    refine X_iconst (v := 1) C dSt_fits_28 rfl ?_
    refine X_goto (tgt := 33) C dSt_fits_29 (by decide) ?_
    rw [← Option.some.inj hR]
    exact X_zret C hr rfl (Nat.le_refl _) (Nat.le_refl _) dSt_fits_33 ⟨rfl, rfl, rfl⟩
  · rw [if_neg c1] at hR
    refine X_iload_n C dSt_fits_5 rfl ?_
    refine X_if_lt (tgt := 32) C dSt_fits_6 (by decide) (fun c2 => ?_) (fun c2 => ?_)
    · rw [if_pos c2] at hR
      refine X_iconst (v := 0) C dSt_fits_32 rfl ?_
      rw [← Option.some.inj hR]
      exact X_zret C hr rfl (Nat.le_refl _) (Nat.le_refl _) dSt_fits_33 ⟨rfl, rfl, rfl⟩
    · rw [if_neg c2] at hR
      refine X_iload_n C dSt_fits_9 rfl ?_
      refine X_aload_n C dSt_fits_10 rfl ?_
      have hq := o_bind hR
      clear hR
      obtain ⟨w3, hx7, hR⟩ := hq
      obtain ⟨fs4, he5, hv6⟩ := gq_e hx7
      refine X_get (k := 1) C oSt fwSt_9 he5 hv6 dSt_fits_11 ?_
      have hq := o_bind hR
      clear hR
      obtain ⟨a8, rfl, hR⟩ := hq
      have hq := o_bind hR
      clear hR
      obtain ⟨u9, hx10, hR⟩ := hq
      obtain ⟨v11, he12, e13⟩ := al_e hx10
      refine X_alen C rfl he12 e13 dSt_fits_14 ?_
      refine X_icmp_ge (tgt := 32) C dSt_fits_15 (by decide) (fun c14 => ?_) (fun c14 => ?_)
      · rw [if_pos c14] at hR
        refine X_iconst (v := 0) C dSt_fits_32 rfl ?_
        rw [← Option.some.inj hR]
        exact X_zret C hr rfl (Nat.le_refl _) (Nat.le_refl _) dSt_fits_33 ⟨rfl, rfl, rfl⟩
      · rw [if_neg c14] at hR
        refine X_aload_n C dSt_fits_18 rfl ?_
        have hq := o_bind hR
        clear hR
        obtain ⟨w15, hx19, hR⟩ := hq
        obtain ⟨fs16, he17, hv18⟩ := gq_e hx19
        refine X_get (k := 1) C oSt fwSt_9 he17 hv18 dSt_fits_19 ?_
        refine X_iload_n C dSt_fits_22 rfl ?_
        have hq := o_bind hR
        clear hR
        obtain ⟨a20, rfl, hR⟩ := hq
        have hq := o_bind hR
        clear hR
        obtain ⟨u21, hx22, hR⟩ := hq
        obtain ⟨n23, f24, he25, hi26, e27⟩ := ai_e hx22
        refine X_iald C rfl he25 hi26 dSt_fits_23 ?_
        rw [← e27]
        refine X_iload_n C dSt_fits_24 rfl ?_
        refine X_icmp_ne (tgt := 32) C dSt_fits_25 (by decide) (fun c28 => ?_) (fun c28 => ?_)
        · rw [if_neg c28] at hR
          refine X_iconst (v := 0) C dSt_fits_32 rfl ?_
          rw [← Option.some.inj hR]
          exact X_zret C hr rfl (Nat.le_refl _) (Nat.le_refl _) dSt_fits_33 ⟨rfl, rfl, rfl⟩
        · rw [if_pos c28] at hR
          refine X_iconst (v := 1) C dSt_fits_28 rfl ?_
          refine X_goto (tgt := 33) C dSt_fits_29 (by decide) ?_
          rw [← Option.some.inj hR]
          exact X_zret C hr rfl (Nat.le_refl _) (Nat.le_refl _) dSt_fits_33 ⟨rfl, rfl, rfl⟩
theorem St_fits_c {l : Launch} {G : xG} {B sz : Nat} {o : Nat} {n : Nat} {x1 : Int32} {x2 : Int32} {h : xH} {R : Int32 × xH} (hR : St_fits_f n o x1 x2 h = some R) : xCon l ySt_fits cSt_fits 3 (some .boolean) 0 0 0 0 G B [.ref (o), .int (x1), .int (x2)] h sz (kP (some (.int R.1)) R.2 sz) := xCon.of (by decide) (by exact Nat.le_of_ble_eq_true rfl) (fun F e C hr _ => X_sub (lv' := [(0, .ref (o)), (1, .int (x1)), (2, .int (x2))]) [0, 1, 2] rfl (St_fits_x C hr hR))
def St_standsAt_t0 (f : Nat → Option Nat → Int32 → xH → Option (Int32 × xH)) (n : Nat) (o : Nat) (y1 : Option Nat) (x2 : Int32) (h : xH) : Option (Int32 × xH) := f 2 (y1) ((0 : Int32)) h
def St_standsAt_t2 (f : Nat → Option Nat → Int32 → xH → Option (Int32 × xH)) (n : Nat) (o : Nat) (y1 : Option Nat) (x2 : Int32) (h : xH) : Option (Int32 × xH) := obd (gq h (o) 2 1) (fun w1 => obd w1 (fun a6 => obd (al h (a6) 0) (fun u7 => (if u7 ≤ x2 then some ((1 : Int32), h) else obd y1 (fun a13 => obd (al h (a13) 0) (fun u14 => (if u14 ≤ x2 then some ((0 : Int32), h) else obd (gq h (o) 2 1) (fun w20 => obd w20 (fun a25 => obd (ai h (a25) 0 (x2)) (fun u26 => obd (ai h (a13) 0 (x2)) (fun u33 => (if u26 = u33 then f 2 (some (a13)) (x2 + 1) h else some ((0 : Int32), h)))))))))))))
def St_standsAt_f : Nat → Nat → Nat → Option Nat → Int32 → xH → Option (Int32 × xH)
  | 0 => fun _ _ _ _ _ => none
  | n + 1 => fun p o y1 x2 h => if p = 0 then St_standsAt_t0 (fun p y1 x2 h => St_standsAt_f n p o y1 x2 h) n o y1 x2 h else if p = 2 then St_standsAt_t2 (fun p y1 x2 h => St_standsAt_f n p o y1 x2 h) n o y1 x2 h else none
theorem St_standsAt_e0 (n : Nat) (o : Nat) (y1 : Option Nat) (x2 : Int32) (h : xH) : St_standsAt_f (n + 1) 0 o y1 x2 h = St_standsAt_t0 (fun p y1 x2 h => St_standsAt_f n p o y1 x2 h) n o y1 x2 h := by
  show (if 0 = 0 then St_standsAt_t0 (fun p y1 x2 h => St_standsAt_f n p o y1 x2 h) n o y1 x2 h else if 0 = 2 then St_standsAt_t2 (fun p y1 x2 h => St_standsAt_f n p o y1 x2 h) n o y1 x2 h else none) = _
  rw [if_pos rfl]
theorem St_standsAt_e2 (n : Nat) (o : Nat) (y1 : Option Nat) (x2 : Int32) (h : xH) : St_standsAt_f (n + 1) 2 o y1 x2 h = St_standsAt_t2 (fun p y1 x2 h => St_standsAt_f n p o y1 x2 h) n o y1 x2 h := by
  show (if 2 = 0 then St_standsAt_t0 (fun p y1 x2 h => St_standsAt_f n p o y1 x2 h) n o y1 x2 h else if 2 = 2 then St_standsAt_t2 (fun p y1 x2 h => St_standsAt_f n p o y1 x2 h) n o y1 x2 h else none) = _
  rw [if_neg (by decide), if_pos rfl]
set_option maxRecDepth 100000 in
set_option maxHeartbeats 8000000 in
theorem St_standsAt_x {F : xF} {G : xG} {B sz : Nat} {o : Nat} (C : xC F G B cSt_standsAt RSt 3 0 0 0 0) (hr : (xFM F).sig.returnType = (some .boolean)) : ∀ (n : Nat) (y1 : Option Nat) (x2 : Int32) (h : xH) (R : Int32 × xH), (St_standsAt_f n 0 o y1 x2 h = some R → X F G B (xZ F G B (kP (some (.int R.1)) R.2 sz) 0 0) 3 h sz 0 0 0 [(0, .ref (o)), (1, va_rf (y1))] []) ∧ (St_standsAt_f n 2 o y1 x2 h = some R → X F G B (xZ F G B (kP (some (.int R.1)) R.2 sz) 0 0) 3 h sz 0 0 2 [(0, .ref (o)), (1, va_rf (y1)), (2, .int (x2))] []) := by
  intro n
  induction n with
  | zero => exact fun _ _ _ _ => ⟨(fun hR => nomatch (show (none : Option _) = some _ from hR)), (fun hR => nomatch (show (none : Option _) = some _ from hR))⟩
  | succ n ih =>
    intro y1 x2 h R
    refine ⟨fun hR => ?_, fun hR => ?_⟩
    · rw [St_standsAt_e0] at hR
      unfold St_standsAt_t0 at hR
      refine X_iconst (v := 0) C dSt_standsAt_0 rfl ?_
      refine X_istore_n (lv' := [(2, .int ((0 : Int32))), (0, .ref (o)), (1, va_rf (y1))]) C dSt_standsAt_1 (by decide) (by simp [rf_cat, cat_i, cat_r, cat_l]) ?_
      refine X_sub (lv' := [(0, .ref (o)), (1, va_rf ((y1))), (2, .int ((0 : Int32)))]) [1, 2, 0] rfl ?_
      exact (ih (y1) ((0 : Int32)) _ _).2 hR
    · rw [St_standsAt_e2] at hR
      unfold St_standsAt_t2 at hR
      refine X_iload_n C dSt_standsAt_2 rfl ?_
      refine X_aload_n C dSt_standsAt_3 rfl ?_
      have hq := o_bind hR
      clear hR
      obtain ⟨w1, hx5, hR⟩ := hq
      obtain ⟨fs2, he3, hv4⟩ := gq_e hx5
      refine X_get (k := 1) C oSt fwSt_9 he3 hv4 dSt_standsAt_4 ?_
      have hq := o_bind hR
      clear hR
      obtain ⟨a6, rfl, hR⟩ := hq
      have hq := o_bind hR
      clear hR
      obtain ⟨u7, hx8, hR⟩ := hq
      obtain ⟨v9, he10, e11⟩ := al_e hx8
      refine X_alen C rfl he10 e11 dSt_standsAt_7 ?_
      refine X_icmp_ge (tgt := 37) C dSt_standsAt_8 (by decide) (fun c12 => ?_) (fun c12 => ?_)
      · rw [if_pos c12] at hR
        refine X_iconst (v := 1) C dSt_standsAt_37 rfl ?_
        rw [← Option.some.inj hR]
        exact X_zret C hr rfl (Nat.le_refl _) (Nat.le_refl _) dSt_standsAt_38 ⟨rfl, rfl, rfl⟩
      · rw [if_neg c12] at hR
        refine X_iload_n C dSt_standsAt_11 rfl ?_
        refine X_aload_nq C dSt_standsAt_12 rfl ?_
        have hq := o_bind hR
        clear hR
        obtain ⟨a13, rfl, hR⟩ := hq
        have hq := o_bind hR
        clear hR
        obtain ⟨u14, hx15, hR⟩ := hq
        obtain ⟨v16, he17, e18⟩ := al_e hx15
        refine X_alen C rfl he17 e18 dSt_standsAt_13 ?_
        refine X_icmp_ge (tgt := 29) C dSt_standsAt_14 (by decide) (fun c19 => ?_) (fun c19 => ?_)
        · rw [if_pos c19] at hR
          refine X_iconst (v := 0) C dSt_standsAt_29 rfl ?_
          rw [← Option.some.inj hR]
          exact X_zret C hr rfl (Nat.le_refl _) (Nat.le_refl _) dSt_standsAt_30 ⟨rfl, rfl, rfl⟩
        · rw [if_neg c19] at hR
          refine X_aload_n C dSt_standsAt_17 rfl ?_
          have hq := o_bind hR
          clear hR
          obtain ⟨w20, hx24, hR⟩ := hq
          obtain ⟨fs21, he22, hv23⟩ := gq_e hx24
          refine X_get (k := 1) C oSt fwSt_9 he22 hv23 dSt_standsAt_18 ?_
          refine X_iload_n C dSt_standsAt_21 rfl ?_
          have hq := o_bind hR
          clear hR
          obtain ⟨a25, rfl, hR⟩ := hq
          have hq := o_bind hR
          clear hR
          obtain ⟨u26, hx27, hR⟩ := hq
          obtain ⟨n28, f29, he30, hi31, e32⟩ := ai_e hx27
          refine X_iald C rfl he30 hi31 dSt_standsAt_22 ?_
          rw [← e32]
          refine X_aload_n C dSt_standsAt_23 rfl ?_
          refine X_iload_n C dSt_standsAt_24 rfl ?_
          have hq := o_bind hR
          clear hR
          obtain ⟨u33, hx34, hR⟩ := hq
          obtain ⟨n35, f36, he37, hi38, e39⟩ := ai_e hx34
          refine X_iald C rfl he37 hi38 dSt_standsAt_25 ?_
          rw [← e39]
          refine X_icmp_eq (tgt := 31) C dSt_standsAt_26 (by decide) (fun c40 => ?_) (fun c40 => ?_)
          · rw [if_pos c40] at hR
            refine X_iinc (v := x2 + 1) (lv' := [(2, .int (x2 + 1)), (0, .ref (o)), (1, .ref (a13))]) C dSt_standsAt_31 rfl rfl (by decide) rfl ?_
            refine X_goto (tgt := 2) C dSt_standsAt_34 (by decide) ?_
            refine X_sub (lv' := [(0, .ref (o)), (1, va_rf ((some (a13)))), (2, .int (x2 + 1))]) [1, 2, 0] rfl ?_
            exact (ih (some (a13)) (x2 + 1) _ _).2 hR
          · rw [if_neg c40] at hR
            refine X_iconst (v := 0) C dSt_standsAt_29 rfl ?_
            rw [← Option.some.inj hR]
            exact X_zret C hr rfl (Nat.le_refl _) (Nat.le_refl _) dSt_standsAt_30 ⟨rfl, rfl, rfl⟩
theorem St_standsAt_c {l : Launch} {G : xG} {B sz : Nat} {o : Nat} {n : Nat} {y1 : Option Nat} {h : xH} {R : Int32 × xH} (hR : St_standsAt_f n 0 o y1 0 h = some R) : xCon l ySt_standsAt cSt_standsAt 3 (some .boolean) 0 0 0 0 G B [.ref (o), va_rf (y1)] h sz (kP (some (.int R.1)) R.2 sz) := xCon.of (by decide) (by simp [lg_sl, rf_cat, cat_i, cat_r, cat_l]) (fun F e C hr _ => X_sub (lv' := [(0, .ref (o)), (1, va_rf (y1))]) [0, 1] (by simp [lv_args, lv_pick, rf_cat, cat_i, cat_r, cat_l]) ((St_standsAt_x C hr n y1 0 h R).1 hR))
def Wa_heft_f (n : Nat) (o : Nat)  (h : xH) : Option (Int32 × xH) := obd (gi h (o) 7 6) (fun u1 => obd (gi h (o) 7 2) (fun u6 => (if u6 = 0 then some (((10 : Int32)) + (u1), h) else obd (gi h (o) 7 2) (fun u12 => (if u12 ≤ 0 then some (((2 : Int32)) * ((((10 : Int32)) + (u1)) + ((100 : Int32))), h) else some ((((10 : Int32)) + (u1)) + ((100 : Int32)), h))))))
set_option maxRecDepth 100000 in
set_option maxHeartbeats 8000000 in
theorem Wa_heft_x {F : xF} {G : xG} {B sz : Nat} {o : Nat} (C : xC F G B cWa_heft RWa 2 0 0 0 0) (hr : (xFM F).sig.returnType = (some .int)) {n : Nat} {h : xH} {R : Int32 × xH} (hR : Wa_heft_f n o  h = some R) : X F G B (xZ F G B (kP (some (.int R.1)) R.2 sz) 0 0) 2 h sz 0 0 0 [(0, .ref (o))] [] := by
  unfold Wa_heft_f at hR
  refine X_bipush (v := 10) C dWa_heft_0 (by decide) ?_
  refine X_aload_n C dWa_heft_2 rfl ?_
  have hq := o_bind hR
  clear hR
  obtain ⟨u1, hx5, hR⟩ := hq
  obtain ⟨fs2, he3, hv4⟩ := gi_e hx5
  refine X_get (k := 6) C oWa fwWa_40 he3 hv4 dWa_heft_3 ?_
  refine X_iadd C dWa_heft_6 ?_
  refine X_istore_n (lv' := [(1, .int (((10 : Int32)) + (u1))), (0, .ref (o))]) C dWa_heft_7 (by decide) rfl ?_
  refine X_aload_n C dWa_heft_8 rfl ?_
  have hq := o_bind hR
  clear hR
  obtain ⟨u6, hx10, hR⟩ := hq
  obtain ⟨fs7, he8, hv9⟩ := gi_e hx10
  refine X_get (k := 2) C oWa fwWa_25 he8 hv9 dWa_heft_9 ?_
  refine X_if_ne (tgt := 17) C dWa_heft_12 (by decide) (fun c11 => ?_) (fun c11 => ?_)
  · rw [if_neg c11] at hR
    refine X_aload_n C dWa_heft_17 rfl ?_
    have hq := o_bind hR
    clear hR
    obtain ⟨u12, hx16, hR⟩ := hq
    obtain ⟨fs13, he14, hv15⟩ := gi_e hx16
    refine X_get (k := 2) C oWa fwWa_25 he14 hv15 dWa_heft_18 ?_
    refine X_if_le (tgt := 31) C dWa_heft_21 (by decide) (fun c17 => ?_) (fun c17 => ?_)
    · rw [if_pos c17] at hR
      refine X_iconst (v := 2) C dWa_heft_31 rfl ?_
      refine X_iload_n C dWa_heft_32 rfl ?_
      refine X_bipush (v := 100) C dWa_heft_33 (by decide) ?_
      refine X_iadd C dWa_heft_35 ?_
      refine X_imul C dWa_heft_36 ?_
      rw [← Option.some.inj hR]
      exact X_iret C hr (Nat.le_refl _) (Nat.le_refl _) dWa_heft_37 ⟨rfl, rfl, rfl⟩
    · rw [if_neg c17] at hR
      refine X_iload_n C dWa_heft_24 rfl ?_
      refine X_bipush (v := 100) C dWa_heft_25 (by decide) ?_
      refine X_iadd C dWa_heft_27 ?_
      refine X_goto (tgt := 37) C dWa_heft_28 (by decide) ?_
      rw [← Option.some.inj hR]
      exact X_iret C hr (Nat.le_refl _) (Nat.le_refl _) dWa_heft_37 ⟨rfl, rfl, rfl⟩
  · rw [if_pos c11] at hR
    refine X_iload_n C dWa_heft_15 rfl ?_
    rw [← Option.some.inj hR]
    exact X_iret C hr (Nat.le_refl _) (Nat.le_refl _) dWa_heft_16 ⟨rfl, rfl, rfl⟩
theorem Wa_heft_c {l : Launch} {G : xG} {B sz : Nat} {o : Nat} {n : Nat} {h : xH} {R : Int32 × xH} (hR : Wa_heft_f n o  h = some R) : xCon l yWa_heft cWa_heft 2 (some .int) 0 0 0 0 G B [.ref (o)] h sz (kP (some (.int R.1)) R.2 sz) := xCon.of (by decide) (by exact Nat.le_of_ble_eq_true rfl) (fun F e C hr _ => X_sub (lv' := [(0, .ref (o))]) [0] rfl (Wa_heft_x C hr hR))
def Ya_machineAt_f (n : Nat) (o : Nat) (x1 : Int32) (h : xH) : Option (Option Nat × xH) := (if x1 < 0 then some (none, h) else obd (gi h (o) 3 1) (fun u2 => (if u2 ≤ x1 then some (none, h) else (if (3 : Int32) ≤ x1 then some (none, h) else obd (gq h (o) 3 0) (fun w9 => obd w9 (fun a14 => obd (aq h (a14) 6 (x1)) (fun w15 => some ((w15), h))))))))
set_option maxRecDepth 100000 in
set_option maxHeartbeats 8000000 in
theorem Ya_machineAt_x {F : xF} {G : xG} {B sz : Nat} {o : Nat} (C : xC F G B cYa_machineAt RYa 2 0 0 0 0) (hr : (xFM F).sig.returnType = (some (.object "TimedYard$Machine"))) {n : Nat} {x1 : Int32} {h : xH} {R : Option Nat × xH} (hR : Ya_machineAt_f n o x1 h = some R) : X F G B (xZ F G B (kP (some (va_rf R.1)) R.2 sz) 0 0) 2 h sz 0 0 0 [(0, .ref (o)), (1, .int (x1))] [] := by
  unfold Ya_machineAt_f at hR
  refine X_iload_n C dYa_machineAt_0 rfl ?_
  refine X_if_lt (tgt := 26) C dYa_machineAt_1 (by decide) (fun c1 => ?_) (fun c1 => ?_)
  · rw [if_pos c1] at hR
    refine X_null C dYa_machineAt_26 ?_
    rw [← Option.some.inj hR]
    exact X_aret C hr (Or.inl ⟨_, rfl⟩) (Or.inl rfl) (Nat.le_refl _) (Nat.le_refl _) dYa_machineAt_27 ⟨rfl, rfl, rfl⟩
  · rw [if_neg c1] at hR
    refine X_iload_n C dYa_machineAt_4 rfl ?_
    refine X_aload_n C dYa_machineAt_5 rfl ?_
    have hq := o_bind hR
    clear hR
    obtain ⟨u2, hx6, hR⟩ := hq
    obtain ⟨fs3, he4, hv5⟩ := gi_e hx6
    refine X_get (k := 1) C oYa fwYa_43 he4 hv5 dYa_machineAt_6 ?_
    refine X_icmp_ge (tgt := 26) C dYa_machineAt_9 (by decide) (fun c7 => ?_) (fun c7 => ?_)
    · rw [if_pos c7] at hR
      refine X_null C dYa_machineAt_26 ?_
      rw [← Option.some.inj hR]
      exact X_aret C hr (Or.inl ⟨_, rfl⟩) (Or.inl rfl) (Nat.le_refl _) (Nat.le_refl _) dYa_machineAt_27 ⟨rfl, rfl, rfl⟩
    · rw [if_neg c7] at hR
      refine X_iload_n C dYa_machineAt_12 rfl ?_
      refine X_iconst (v := 3) C dYa_machineAt_13 rfl ?_
      refine X_icmp_ge (tgt := 26) C dYa_machineAt_14 (by decide) (fun c8 => ?_) (fun c8 => ?_)
      · rw [if_pos c8] at hR
        refine X_null C dYa_machineAt_26 ?_
        rw [← Option.some.inj hR]
        exact X_aret C hr (Or.inl ⟨_, rfl⟩) (Or.inl rfl) (Nat.le_refl _) (Nat.le_refl _) dYa_machineAt_27 ⟨rfl, rfl, rfl⟩
      · rw [if_neg c8] at hR
        refine X_aload_n C dYa_machineAt_17 rfl ?_
        have hq := o_bind hR
        clear hR
        obtain ⟨w9, hx13, hR⟩ := hq
        obtain ⟨fs10, he11, hv12⟩ := gq_e hx13
        refine X_get (k := 0) C oYa fwYa_11 he11 hv12 dYa_machineAt_18 ?_
        refine X_iload_n C dYa_machineAt_21 rfl ?_
        have hq := o_bind hR
        clear hR
        obtain ⟨a14, rfl, hR⟩ := hq
        have hq := o_bind hR
        clear hR
        obtain ⟨w15, hx16, hR⟩ := hq
        obtain ⟨n17, f18, he19, hi20, e21⟩ := aq_e hx16
        refine X_aald C rfl he19 hi20 dYa_machineAt_22 ?_
        rw [← e21]
        refine X_goto (tgt := 27) C dYa_machineAt_23 (by decide) ?_
        rw [← Option.some.inj hR]
        exact X_aret C hr (Or.inl ⟨_, rfl⟩) (rf_or _) (Nat.le_refl _) (Nat.le_refl _) dYa_machineAt_27 ⟨rfl, rfl, rfl⟩
theorem Ya_machineAt_c {l : Launch} {G : xG} {B sz : Nat} {o : Nat} {n : Nat} {x1 : Int32} {h : xH} {R : Option Nat × xH} (hR : Ya_machineAt_f n o x1 h = some R) : xCon l yYa_machineAt cYa_machineAt 2 (some (.object "TimedYard$Machine")) 0 0 0 0 G B [.ref (o), .int (x1)] h sz (kP (some (va_rf R.1)) R.2 sz) := xCon.of (by decide) (by exact Nat.le_of_ble_eq_true rfl) (fun F e C hr _ => X_sub (lv' := [(0, .ref (o)), (1, .int (x1))]) [0, 1] rfl (Ya_machineAt_x C hr hR))
def Ya_placeAt_f (n : Nat) (o : Nat) (x1 : Int32) (x2 : Int32) (h : xH) : Option (Option Nat × xH) := (if kc h (o) 3 = true then obd (Ya_machineAt_f n (o) (x1) h) (fun r1 => bnd (r1.1) (fun w2 => oel (w2) (some (none, r1.2)) (fun a4 => (if x2 < 0 then some (none, r1.2) else obd (gi r1.2 (a4) 5 2) (fun u7 => (if u7 ≤ x2 then some (none, r1.2) else (if x2 < (6 : Int32) then obd (gq r1.2 (a4) 5 0) (fun w14 => obd w14 (fun a19 => obd (aq r1.2 (a19) 4 (x2)) (fun w20 => some ((w20), r1.2)))) else some (none, r1.2)))))))) else none)
set_option maxRecDepth 100000 in
set_option maxHeartbeats 8000000 in
theorem Ya_placeAt_x {F : xF} {G : xG} {B sz : Nat} {o : Nat} (C : xC F G B cYa_placeAt RYa 4 1 21 0 0) (hr : (xFM F).sig.returnType = (some (.object "TimedYard$Place"))) {n : Nat} {x1 : Int32} {x2 : Int32} {h : xH} {R : Option Nat × xH} (hR : Ya_placeAt_f n o x1 x2 h = some R) : X F G B (xZ F G B (kP (some (va_rf R.1)) R.2 sz) 0 0) 4 h sz 0 0 0 [(0, .ref (o)), (1, .int (x1)), (2, .int (x2))] [] := by
  unfold Ya_placeAt_f at hR
  refine X_aload_n C dYa_placeAt_0 rfl ?_
  refine X_iload_n C dYa_placeAt_1 rfl ?_
  have hq := o_if hR
  clear hR
  obtain ⟨k27, hR⟩ := hq
  obtain ⟨fs28, he29⟩ := kc_e k27
  have hq := o_bind hR
  clear hR
  obtain ⟨r1, hr1, hR⟩ := hq
  refine X_callVk (As := [.int (x1)]) (rest := []) C (Ya_machineAt_c hr1) wYa_47 ⟨by decide, by decide⟩ ⟨Nat.le_refl _, Nat.le_refl _⟩ he29 oYa.2.1 rfl rfl (Nat.le_of_ble_eq_true rfl) dYa_placeAt_2 ?_
  show X F G B _ 4 (r1.2) _ _ _ _ _ [va_rf (r1.1)]
  have hq := b_bnd hR
  clear hR
  obtain ⟨w2, e3, hR⟩ := hq
  rw [← e3]
  refine X_astore_nq (lv' := [(3, va_rf (w2)), (0, .ref (o)), (1, .int (x1)), (2, .int (x2))]) C dYa_placeAt_5 (by decide) rfl ?_
  refine X_aload_nq C dYa_placeAt_6 rfl ?_
  refine X_ifnullq (tgt := 28) C dYa_placeAt_7 (by decide) (fun e5 => ?_) (fun a4 e5 => ?_)
  · subst e5
    rw [oel_n] at hR
    refine X_null C dYa_placeAt_28 ?_
    rw [← Option.some.inj hR]
    exact X_aret C hr (Or.inl ⟨_, rfl⟩) (Or.inl rfl) (Nat.le_refl _) (Nat.le_refl _) dYa_placeAt_29 ⟨rfl, rfl, rfl⟩
  · subst e5
    rw [oel_s] at hR
    refine X_iload_n C dYa_placeAt_10 rfl ?_
    refine X_if_lt (tgt := 28) C dYa_placeAt_11 (by decide) (fun c6 => ?_) (fun c6 => ?_)
    · rw [if_pos c6] at hR
      refine X_null C dYa_placeAt_28 ?_
      rw [← Option.some.inj hR]
      exact X_aret C hr (Or.inl ⟨_, rfl⟩) (Or.inl rfl) (Nat.le_refl _) (Nat.le_refl _) dYa_placeAt_29 ⟨rfl, rfl, rfl⟩
    · rw [if_neg c6] at hR
      refine X_iload_n C dYa_placeAt_14 rfl ?_
      refine X_aload_n C dYa_placeAt_15 rfl ?_
      have hq := o_bind hR
      clear hR
      obtain ⟨u7, hx11, hR⟩ := hq
      obtain ⟨fs8, he9, hv10⟩ := gi_e hx11
      refine X_get (k := 2) C oMa fwYa_51 he9 hv10 dYa_placeAt_16 ?_
      refine X_icmp_ge (tgt := 28) C dYa_placeAt_19 (by decide) (fun c12 => ?_) (fun c12 => ?_)
      · rw [if_pos c12] at hR
        refine X_null C dYa_placeAt_28 ?_
        rw [← Option.some.inj hR]
        exact X_aret C hr (Or.inl ⟨_, rfl⟩) (Or.inl rfl) (Nat.le_refl _) (Nat.le_refl _) dYa_placeAt_29 ⟨rfl, rfl, rfl⟩
      · rw [if_neg c12] at hR
        refine X_iload_n C dYa_placeAt_22 rfl ?_
        refine X_bipush (v := 6) C dYa_placeAt_23 (by decide) ?_
        refine X_icmp_lt (tgt := 30) C dYa_placeAt_25 (by decide) (fun c13 => ?_) (fun c13 => ?_)
        · rw [if_pos c13] at hR
          refine X_aload_n C dYa_placeAt_30 rfl ?_
          have hq := o_bind hR
          clear hR
          obtain ⟨w14, hx18, hR⟩ := hq
          obtain ⟨fs15, he16, hv17⟩ := gq_e hx18
          refine X_get (k := 0) C oMa fwYa_54 he16 hv17 dYa_placeAt_31 ?_
          refine X_iload_n C dYa_placeAt_34 rfl ?_
          have hq := o_bind hR
          clear hR
          obtain ⟨a19, rfl, hR⟩ := hq
          have hq := o_bind hR
          clear hR
          obtain ⟨w20, hx21, hR⟩ := hq
          obtain ⟨n22, f23, he24, hi25, e26⟩ := aq_e hx21
          refine X_aald C rfl he24 hi25 dYa_placeAt_35 ?_
          rw [← e26]
          rw [← Option.some.inj hR]
          exact X_aret C hr (Or.inl ⟨_, rfl⟩) (rf_or _) (Nat.le_refl _) (Nat.le_refl _) dYa_placeAt_36 ⟨rfl, rfl, rfl⟩
        · rw [if_neg c13] at hR
          refine X_null C dYa_placeAt_28 ?_
          rw [← Option.some.inj hR]
          exact X_aret C hr (Or.inl ⟨_, rfl⟩) (Or.inl rfl) (Nat.le_refl _) (Nat.le_refl _) dYa_placeAt_29 ⟨rfl, rfl, rfl⟩
theorem Ya_placeAt_c {l : Launch} {G : xG} {B sz : Nat} {o : Nat} {n : Nat} {x1 : Int32} {x2 : Int32} {h : xH} {R : Option Nat × xH} (hR : Ya_placeAt_f n o x1 x2 h = some R) : xCon l yYa_placeAt cYa_placeAt 4 (some (.object "TimedYard$Place")) 1 21 0 0 G B [.ref (o), .int (x1), .int (x2)] h sz (kP (some (va_rf R.1)) R.2 sz) := xCon.of (by decide) (by exact Nat.le_of_ble_eq_true rfl) (fun F e C hr _ => X_sub (lv' := [(0, .ref (o)), (1, .int (x1)), (2, .int (x2))]) [0, 1, 2] rfl (Ya_placeAt_x C hr hR))
def J7_fill_53178_t0 (f : Nat → Option Nat → Int32 → Int32 → Int32 → xH → Option (Int32 × xH)) (n : Nat) (y0 : Option Nat) (x1 : Int32) (x2 : Int32) (x3 : Int32) (h : xH) : Option (Int32 × xH) := obd y0 (fun a1 => obd (al h (a1) 0) (fun u2 => f 5 (some (a1)) (x1) ((0 : Int32)) (u2) h))
def J7_fill_53178_t5 (f : Nat → Option Nat → Int32 → Int32 → Int32 → xH → Option (Int32 × xH)) (n : Nat) (y0 : Option Nat) (x1 : Int32) (x2 : Int32) (x3 : Int32) (h : xH) : Option (Int32 × xH) := (if x3 ≤ x2 then some (0, h) else obd y0 (fun a8 => obd (pa h (a8) 0 (x2) (x1)) (fun h9 => f 5 (some (a8)) (x1) (x2 + 1) (x3) h9)))
def J7_fill_53178_f : Nat → Nat → Option Nat → Int32 → Int32 → Int32 → xH → Option (Int32 × xH)
  | 0 => fun _ _ _ _ _ _ => none
  | n + 1 => fun p y0 x1 x2 x3 h => if p = 0 then J7_fill_53178_t0 (J7_fill_53178_f n) n y0 x1 x2 x3 h else if p = 5 then J7_fill_53178_t5 (J7_fill_53178_f n) n y0 x1 x2 x3 h else none
theorem J7_fill_53178_e0 (n : Nat) (y0 : Option Nat) (x1 : Int32) (x2 : Int32) (x3 : Int32) (h : xH) : J7_fill_53178_f (n + 1) 0 y0 x1 x2 x3 h = J7_fill_53178_t0 (J7_fill_53178_f n) n y0 x1 x2 x3 h := by
  show (if 0 = 0 then J7_fill_53178_t0 (J7_fill_53178_f n) n y0 x1 x2 x3 h else if 0 = 5 then J7_fill_53178_t5 (J7_fill_53178_f n) n y0 x1 x2 x3 h else none) = _
  rw [if_pos rfl]
theorem J7_fill_53178_e5 (n : Nat) (y0 : Option Nat) (x1 : Int32) (x2 : Int32) (x3 : Int32) (h : xH) : J7_fill_53178_f (n + 1) 5 y0 x1 x2 x3 h = J7_fill_53178_t5 (J7_fill_53178_f n) n y0 x1 x2 x3 h := by
  show (if 5 = 0 then J7_fill_53178_t0 (J7_fill_53178_f n) n y0 x1 x2 x3 h else if 5 = 5 then J7_fill_53178_t5 (J7_fill_53178_f n) n y0 x1 x2 x3 h else none) = _
  rw [if_neg (by decide), if_pos rfl]
set_option maxRecDepth 100000 in
set_option maxHeartbeats 8000000 in
theorem J7_fill_53178_x {F : xF} {G : xG} {B sz : Nat} (C : xC F G B cJ7_fill_53178 RJ7 4 0 0 0 0) (hr : (xFM F).sig.returnType = none) : ∀ (n : Nat) (y0 : Option Nat) (x1 : Int32) (x2 : Int32) (x3 : Int32) (h : xH) (R : Int32 × xH), (J7_fill_53178_f n 0 y0 x1 x2 x3 h = some R → X F G B (xZ F G B (kP none R.2 sz) 0 0) 4 h sz 0 0 0 [(0, va_rf (y0)), (1, .int (x1))] []) ∧ (J7_fill_53178_f n 5 y0 x1 x2 x3 h = some R → X F G B (xZ F G B (kP none R.2 sz) 0 0) 4 h sz 0 0 5 [(0, va_rf (y0)), (1, .int (x1)), (2, .int (x2)), (3, .int (x3))] []) := by
  intro n
  induction n with
  | zero => exact fun _ _ _ _ _ _ => ⟨(fun hR => nomatch (show (none : Option _) = some _ from hR)), (fun hR => nomatch (show (none : Option _) = some _ from hR))⟩
  | succ n ih =>
    intro y0 x1 x2 x3 h R
    refine ⟨fun hR => ?_, fun hR => ?_⟩
    · rw [J7_fill_53178_e0] at hR
      unfold J7_fill_53178_t0 at hR
      refine X_iconst (v := 0) C dJ7_fill_53178_0 rfl ?_
      refine X_istore_n (lv' := [(2, .int ((0 : Int32))), (0, va_rf (y0)), (1, .int (x1))]) C dJ7_fill_53178_1 (by decide) (by simp [rf_cat, cat_i, cat_r, cat_l]) ?_
      refine X_aload_nq C dJ7_fill_53178_2 rfl ?_
      have hq := o_bind hR
      clear hR
      obtain ⟨a1, rfl, hR⟩ := hq
      have hq := o_bind hR
      clear hR
      obtain ⟨u2, hx3, hR⟩ := hq
      obtain ⟨v4, he5, e6⟩ := al_e hx3
      refine X_alen C rfl he5 e6 dJ7_fill_53178_3 ?_
      refine X_istore_n (lv' := [(3, .int (u2)), (2, .int ((0 : Int32))), (0, .ref (a1)), (1, .int (x1))]) C dJ7_fill_53178_4 (by decide) rfl ?_
      refine X_sub (lv' := [(0, va_rf ((some (a1)))), (1, .int (x1)), (2, .int ((0 : Int32))), (3, .int (u2))]) [2, 3, 1, 0] rfl ?_
      exact (ih (some (a1)) (x1) ((0 : Int32)) (u2) _ _).2 hR
    · rw [J7_fill_53178_e5] at hR
      unfold J7_fill_53178_t5 at hR
      refine X_iload_n C dJ7_fill_53178_5 rfl ?_
      refine X_iload_n C dJ7_fill_53178_6 rfl ?_
      refine X_icmp_ge (tgt := 20) C dJ7_fill_53178_7 (by decide) (fun c7 => ?_) (fun c7 => ?_)
      · rw [if_pos c7] at hR
        rw [← Option.some.inj hR]
        exact X_vret C hr (Nat.le_refl _) (Nat.le_refl _) dJ7_fill_53178_20 ⟨rfl, rfl, rfl⟩
      · rw [if_neg c7] at hR
        refine X_aload_nq C dJ7_fill_53178_10 rfl ?_
        refine X_iload_n C dJ7_fill_53178_11 rfl ?_
        refine X_iload_n C dJ7_fill_53178_12 rfl ?_
        have hq := o_bind hR
        clear hR
        obtain ⟨a8, rfl, hR⟩ := hq
        have hq := o_bind hR
        clear hR
        obtain ⟨h9, hh10, hR⟩ := hq
        obtain ⟨n11, f12, he13, hi14, e15⟩ := pa_e hh10
        refine X_iast C rfl he13 hi14 dJ7_fill_53178_13 ?_
        rw [← e15]
        refine X_iinc (v := x2 + 1) (lv' := [(2, .int (x2 + 1)), (0, .ref (a8)), (1, .int (x1)), (3, .int (x3))]) C dJ7_fill_53178_14 rfl rfl (by decide) rfl ?_
        refine X_goto (tgt := 5) C dJ7_fill_53178_17 (by decide) ?_
        refine X_sub (lv' := [(0, va_rf ((some (a8)))), (1, .int (x1)), (2, .int (x2 + 1)), (3, .int (x3))]) [1, 2, 0, 3] rfl ?_
        exact (ih (some (a8)) (x1) (x2 + 1) (x3) _ _).2 hR
theorem J7_fill_53178_c {l : Launch} {G : xG} {B sz : Nat} {n : Nat} {y0 : Option Nat} {x1 : Int32} {h : xH} {R : Int32 × xH} (hR : J7_fill_53178_f n 0 y0 x1 0 0 h = some R) : xCon l yJ7_fill_53178 cJ7_fill_53178 4 none 0 0 0 0 G B [va_rf (y0), .int (x1)] h sz (kP none R.2 sz) := xCon.of (by decide) (by simp [lg_sl, rf_cat, cat_i, cat_r, cat_l]) (fun F e C hr _ => X_sub (lv' := [(0, va_rf (y0)), (1, .int (x1))]) [0, 1] (by simp [lv_args, lv_pick, rf_cat, cat_i, cat_r, cat_l]) ((J7_fill_53178_x C hr n y0 x1 0 0 h R).1 hR))
def Zo_at_f (n : Nat) (o : Nat) (x1 : Int32) (x2 : Int32) (h : xH) : Option (Int32 × xH) := obd (gq h (o) 1 1) (fun w1 => obd (gi h (o) 1 0) (fun u6 => obd w1 (fun a11 => obd (ai h (a11) 0 (((x1) * (u6)) + (x2))) (fun u12 => some (u12, h)))))
set_option maxRecDepth 100000 in
set_option maxHeartbeats 8000000 in
theorem Zo_at_x {F : xF} {G : xG} {B sz : Nat} {o : Nat} (C : xC F G B cZo_at RZo 3 0 0 0 0) (hr : (xFM F).sig.returnType = (some .int)) {n : Nat} {x1 : Int32} {x2 : Int32} {h : xH} {R : Int32 × xH} (hR : Zo_at_f n o x1 x2 h = some R) : X F G B (xZ F G B (kP (some (.int R.1)) R.2 sz) 0 0) 3 h sz 0 0 0 [(0, .ref (o)), (1, .int (x1)), (2, .int (x2))] [] := by
  unfold Zo_at_f at hR
  refine X_aload_n C dZo_at_0 rfl ?_
  have hq := o_bind hR
  clear hR
  obtain ⟨w1, hx5, hR⟩ := hq
  obtain ⟨fs2, he3, hv4⟩ := gq_e hx5
  refine X_get (k := 1) C oZo fwZo_15 he3 hv4 dZo_at_1 ?_
  refine X_iload_n C dZo_at_4 rfl ?_
  refine X_aload_n C dZo_at_5 rfl ?_
  have hq := o_bind hR
  clear hR
  obtain ⟨u6, hx10, hR⟩ := hq
  obtain ⟨fs7, he8, hv9⟩ := gi_e hx10
  refine X_get (k := 0) C oZo fwZo_9 he8 hv9 dZo_at_6 ?_
  refine X_imul C dZo_at_9 ?_
  refine X_iload_n C dZo_at_10 rfl ?_
  refine X_iadd C dZo_at_11 ?_
  have hq := o_bind hR
  clear hR
  obtain ⟨a11, rfl, hR⟩ := hq
  have hq := o_bind hR
  clear hR
  obtain ⟨u12, hx13, hR⟩ := hq
  obtain ⟨n14, f15, he16, hi17, e18⟩ := ai_e hx13
  refine X_iald C rfl he16 hi17 dZo_at_12 ?_
  rw [← e18]
  rw [← Option.some.inj hR]
  exact X_iret C hr (Nat.le_refl _) (Nat.le_refl _) dZo_at_13 ⟨rfl, rfl, rfl⟩
theorem Zo_at_c {l : Launch} {G : xG} {B sz : Nat} {o : Nat} {n : Nat} {x1 : Int32} {x2 : Int32} {h : xH} {R : Int32 × xH} (hR : Zo_at_f n o x1 x2 h = some R) : xCon l yZo_at cZo_at 3 (some .int) 0 0 0 0 G B [.ref (o), .int (x1), .int (x2)] h sz (kP (some (.int R.1)) R.2 sz) := xCon.of (by decide) (by exact Nat.le_of_ble_eq_true rfl) (fun F e C hr _ => X_sub (lv' := [(0, .ref (o)), (1, .int (x1)), (2, .int (x2))]) [0, 1, 2] rfl (Zo_at_x C hr hR))
def Zo_sum_f (n : Nat) (x0 : Int32) (x1 : Int32) (h : xH) : Option (Int32 × xH) := (if x0 = (1000000 : Int32) then some ((1000000 : Int32), h) else (if x1 = (1000000 : Int32) then some ((1000000 : Int32), h) else some (((x0) + (x1)) - (((x0) ||| (x1)) &&& ((1 : Int32))), h)))
set_option maxRecDepth 100000 in
set_option maxHeartbeats 8000000 in
theorem Zo_sum_x {F : xF} {G : xG} {B sz : Nat} (C : xC F G B cZo_sum RZo 2 0 0 0 0) (hr : (xFM F).sig.returnType = (some .int)) {n : Nat} {x0 : Int32} {x1 : Int32} {h : xH} {R : Int32 × xH} (hR : Zo_sum_f n x0 x1 h = some R) : X F G B (xZ F G B (kP (some (.int R.1)) R.2 sz) 0 0) 2 h sz 0 0 0 [(0, .int (x0)), (1, .int (x1))] [] := by
  unfold Zo_sum_f at hR
  refine X_iload_n C dZo_sum_0 rfl ?_
  refine X_ldc (v := 1000000) C kZo_25 dZo_sum_1 ?_
  refine X_icmp_eq (tgt := 12) C dZo_sum_3 (by decide) (fun c1 => ?_) (fun c1 => ?_)
  · rw [if_pos c1] at hR
    refine X_ldc (v := 1000000) C kZo_25 dZo_sum_12 ?_
    rw [← Option.some.inj hR]
    exact X_iret C hr (Nat.le_refl _) (Nat.le_refl _) dZo_sum_14 ⟨rfl, rfl, rfl⟩
  · rw [if_neg c1] at hR
    refine X_iload_n C dZo_sum_6 rfl ?_
    refine X_ldc (v := 1000000) C kZo_25 dZo_sum_7 ?_
    refine X_icmp_ne (tgt := 15) C dZo_sum_9 (by decide) (fun c2 => ?_) (fun c2 => ?_)
    · rw [if_neg c2] at hR
      refine X_iload_n C dZo_sum_15 rfl ?_
      refine X_iload_n C dZo_sum_16 rfl ?_
      refine X_iadd C dZo_sum_17 ?_
      refine X_iload_n C dZo_sum_18 rfl ?_
      refine X_iload_n C dZo_sum_19 rfl ?_
      refine X_ior C dZo_sum_20 ?_
      refine X_iconst (v := 1) C dZo_sum_21 rfl ?_
      refine X_iand C dZo_sum_22 ?_
      refine X_isub C dZo_sum_23 ?_
      rw [← Option.some.inj hR]
      exact X_iret C hr (Nat.le_refl _) (Nat.le_refl _) dZo_sum_24 ⟨rfl, rfl, rfl⟩
    · rw [if_pos c2] at hR
      refine X_ldc (v := 1000000) C kZo_25 dZo_sum_12 ?_
      rw [← Option.some.inj hR]
      exact X_iret C hr (Nat.le_refl _) (Nat.le_refl _) dZo_sum_14 ⟨rfl, rfl, rfl⟩
theorem Zo_sum_c {l : Launch} {G : xG} {B sz : Nat} {n : Nat} {x0 : Int32} {x1 : Int32} {h : xH} {R : Int32 × xH} (hR : Zo_sum_f n x0 x1 h = some R) : xCon l yZo_sum cZo_sum 2 (some .int) 0 0 0 0 G B [.int (x0), .int (x1)] h sz (kP (some (.int R.1)) R.2 sz) := xCon.of (by decide) (by exact Nat.le_of_ble_eq_true rfl) (fun F e C hr _ => X_sub (lv' := [(0, .int (x0)), (1, .int (x1))]) [0, 1] rfl (Zo_sum_x C hr hR))
