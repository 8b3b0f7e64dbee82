def He_init_f (n : Nat) (o : Nat)  (h : xH) : Option (Int32 × xH) := some (0, h)
set_option maxRecDepth 100000 in
set_option maxHeartbeats 8000000 in
theorem He_init_x {F : xF} {G : xG} {B sz : Nat} {o : Nat} (C : xC F G B cHe_init RHe 1 1 21 0 0) (hr : (xFM F).sig.returnType = none) (hin : (xFM F).name = "<init>") {n : Nat} {h : xH} {R : Int32 × xH} (hR : He_init_f n o  h = some R) : X F G B (xZ F G B (kP none R.2 sz) 0 0) 1 h sz 0 0 0 [(0, .ref (o))] [] := by
  unfold He_init_f at hR
  refine X_aload_n C dHe_init_0 rfl ?_
  refine X_obj C obHe_1 ⟨by decide, Nat.le_of_ble_eq_true rfl⟩ dHe_init_1 ?_
  rw [← Option.some.inj hR]
  exact X_vret C hr (Nat.le_refl _) (Nat.le_refl _) dHe_init_4 ⟨rfl, rfl, rfl⟩
theorem He_init_c {l : Launch} {G : xG} {B sz : Nat} {o : Nat} {n : Nat} {h : xH} {R : Int32 × xH} (hR : He_init_f n o  h = some R) : xCon l yHe_init cHe_init 1 none 1 21 0 0 G B [.ref (o)] h sz (kP none R.2 sz) := xCon.of (by decide) (by exact Nat.le_of_ble_eq_true rfl) (fun F e C hr hnm => X_sub (lv' := [(0, .ref (o))]) [0] rfl (He_init_x C hr hnm hR))
def Ro_init_f (n : Nat) (o : Nat)  (h : xH) : Option (Int32 × xH) := obd (He_init_f n (o) h) (fun r1 => some (0, r1.2))
set_option maxRecDepth 100000 in
set_option maxHeartbeats 8000000 in
theorem Ro_init_x {F : xF} {G : xG} {B sz : Nat} {o : Nat} (C : xC F G B cRo_init RRo 1 2 41 0 0) (hr : (xFM F).sig.returnType = none) (hin : (xFM F).name = "<init>") {n : Nat} {h : xH} {R : Int32 × xH} (hR : Ro_init_f n o  h = some R) : X F G B (xZ F G B (kP none R.2 sz) 0 0) 1 h sz 0 0 0 [(0, .ref (o))] [] := by
  unfold Ro_init_f at hR
  refine X_aload_n C dRo_init_0 rfl ?_
  have hq := o_bind hR
  clear hR
  obtain ⟨r1, hr1, hR⟩ := hq
  refine X_callIk (As := []) (rest := []) C (He_init_c hr1) wRo_3 ⟨by decide, by decide⟩ ⟨Nat.le_refl _, Nat.le_refl _⟩ rfl rfl (Nat.le_of_ble_eq_true rfl) dRo_init_1 ?_
  show X F G B _ 1 (r1.2) _ _ _ _ _ []
  rw [← Option.some.inj hR]
  exact X_vret C hr (Nat.le_refl _) (Nat.le_refl _) dRo_init_4 ⟨rfl, rfl, rfl⟩
theorem Ro_init_c {l : Launch} {G : xG} {B sz : Nat} {o : Nat} {n : Nat} {h : xH} {R : Int32 × xH} (hR : Ro_init_f n o  h = some R) : xCon l yRo_init cRo_init 1 none 2 41 0 0 G B [.ref (o)] h sz (kP none R.2 sz) := xCon.of (by decide) (by exact Nat.le_of_ble_eq_true rfl) (fun F e C hr hnm => X_sub (lv' := [(0, .ref (o))]) [0] rfl (Ro_init_x C hr hnm hR))
def Lr_init_f (n : Nat) (o : Nat) (y1 : Option Nat) (h : xH) : Option (Int32 × xH) := obd (Ro_init_f n (o) h) (fun r1 => obd (pf r1.2 (o) 9 0 (va_rf (y1))) (fun h2 => some (0, h2)))
set_option maxRecDepth 100000 in
set_option maxHeartbeats 8000000 in
theorem Lr_init_x {F : xF} {G : xG} {B sz : Nat} {o : Nat} (C : xC F G B cLr_init RLr 2 3 61 0 0) (hr : (xFM F).sig.returnType = none) (hin : (xFM F).name = "<init>") {n : Nat} {y1 : Option Nat} {h : xH} {R : Int32 × xH} (hR : Lr_init_f n o y1 h = some R) : X F G B (xZ F G B (kP none R.2 sz) 0 0) 2 h sz 0 0 0 [(0, .ref (o)), (1, va_rf (y1))] [] := by
  unfold Lr_init_f at hR
  refine X_aload_n C dLr_init_0 rfl ?_
  have hq := o_bind hR
  clear hR
  obtain ⟨r1, hr1, hR⟩ := hq
  refine X_callIk (As := []) (rest := []) C (Ro_init_c hr1) wLr_1 ⟨by decide, by decide⟩ ⟨Nat.le_refl _, Nat.le_refl _⟩ rfl rfl (Nat.le_of_ble_eq_true rfl) dLr_init_1 ?_
  show X F G B _ 2 (r1.2) _ _ _ _ _ []
  refine X_aload_n C dLr_init_4 rfl ?_
  refine X_aload_nq C dLr_init_5 rfl ?_
  have hq := o_bind hR
  clear hR
  obtain ⟨h2, hh3, hR⟩ := hq
  obtain ⟨fs4, he5, hl6, e7⟩ := pf_e hh3
  refine X_putF (k := 0) C hin oLr fwLr_7 ⟨rfl, rfl⟩ he5 (nq_a _) (fq_a _) hl6 dLr_init_6 ?_
  rw [← e7]
  rw [← Option.some.inj hR]
  exact X_vret C hr (Nat.le_refl _) (Nat.le_refl _) dLr_init_9 ⟨rfl, rfl, rfl⟩
theorem Lr_init_c {l : Launch} {G : xG} {B sz : Nat} {o : Nat} {n : Nat} {y1 : Option Nat} {h : xH} {R : Int32 × xH} (hR : Lr_init_f n o y1 h = some R) : xCon l yLr_init cLr_init 2 none 3 61 0 0 G B [.ref (o), va_rf (y1)] h sz (kP none R.2 sz) := xCon.of (by decide) (by simp [lg_sl, rf_cat, cat_i, cat_r, cat_l]) (fun F e C hr hnm => X_sub (lv' := [(0, .ref (o)), (1, va_rf (y1))]) [0, 1] (by simp [lv_args, lv_pick, rf_cat, cat_i, cat_r, cat_l]) (Lr_init_x C hr hnm hR))
def Lr_size_f (n : Nat) (o : Nat)  (h : xH) : Option (Int32 × xH) := obd (gq h (o) 9 0) (fun w1 => obd w1 (fun a6 => obd (al h (a6) 1) (fun u7 => some (u7, h))))
set_option maxRecDepth 100000 in
set_option maxHeartbeats 8000000 in
theorem Lr_size_x {F : xF} {G : xG} {B sz : Nat} {o : Nat} (C : xC F G B cLr_size RLr 1 0 0 0 0) (hr : (xFM F).sig.returnType = (some .int)) {n : Nat} {h : xH} {R : Int32 × xH} (hR : Lr_size_f n o  h = some R) : X F G B (xZ F G B (kP (some (.int R.1)) R.2 sz) 0 0) 1 h sz 0 0 0 [(0, .ref (o))] [] := by
  unfold Lr_size_f at hR
  refine X_aload_n C dLr_size_0 rfl ?_
  have hq := o_bind hR
  clear hR
  obtain ⟨w1, hx5, hR⟩ := hq
  obtain ⟨fs2, he3, hv4⟩ := gq_e hx5
  refine X_get (k := 0) C oLr fwLr_7 he3 hv4 dLr_size_1 ?_
  have hq := o_bind hR
  clear hR
  obtain ⟨a6, rfl, hR⟩ := hq
  have hq := o_bind hR
  clear hR
  obtain ⟨u7, hx8, hR⟩ := hq
  obtain ⟨v9, he10, e11⟩ := al_e hx8
  refine X_alen C rfl he10 e11 dLr_size_4 ?_
  rw [← Option.some.inj hR]
  exact X_iret C hr (Nat.le_refl _) (Nat.le_refl _) dLr_size_5 ⟨rfl, rfl, rfl⟩
theorem Lr_size_c {l : Launch} {G : xG} {B sz : Nat} {o : Nat} {n : Nat} {h : xH} {R : Int32 × xH} (hR : Lr_size_f n o  h = some R) : xCon l yLr_size cLr_size 1 (some .int) 0 0 0 0 G B [.ref (o)] h sz (kP (some (.int R.1)) R.2 sz) := xCon.of (by decide) (by exact Nat.le_of_ble_eq_true rfl) (fun F e C hr hnm => X_sub (lv' := [(0, .ref (o))]) [0] rfl (Lr_size_x C hr hR))
def Lr_valueAt_f (n : Nat) (o : Nat) (x1 : Int32) (h : xH) : Option (Int64 × xH) := (if x1 < 0 then some ((0 : Int64), h) else obd (gq h (o) 9 0) (fun w2 => obd w2 (fun a7 => obd (al h (a7) 1) (fun u8 => (if u8 ≤ x1 then some ((0 : Int64), h) else obd (gq h (o) 9 0) (fun w14 => obd w14 (fun a19 => obd (gl h (a19) (x1)) (fun u20 => some (u20, h)))))))))
set_option maxRecDepth 100000 in
set_option maxHeartbeats 8000000 in
theorem Lr_valueAt_x {F : xF} {G : xG} {B sz : Nat} {o : Nat} (C : xC F G B cLr_valueAt RLr 2 0 0 0 0) (hr : (xFM F).sig.returnType = (some .long)) {n : Nat} {x1 : Int32} {h : xH} {R : Int64 × xH} (hR : Lr_valueAt_f n o x1 h = some R) : X F G B (xZ F G B (kP (some (.long R.1)) R.2 sz) 0 0) 2 h sz 0 0 0 [(0, .ref (o)), (1, .int (x1))] [] := by
  unfold Lr_valueAt_f at hR
  refine X_iload_n C dLr_valueAt_0 rfl ?_
  refine X_if_lt (tgt := 22) C dLr_valueAt_1 (by decide) (fun c1 => ?_) (fun c1 => ?_)
  · rw [if_pos c1] at hR
    refine X_lconst (v := 0) C dLr_valueAt_22 rfl ?_
    rw [← Option.some.inj hR]
    exact X_lret C hr (Nat.le_refl _) (Nat.le_refl _) dLr_valueAt_23 ⟨rfl, rfl, rfl⟩
  · rw [if_neg c1] at hR
    refine X_iload_n C dLr_valueAt_4 rfl ?_
    refine X_aload_n C dLr_valueAt_5 rfl ?_
    have hq := o_bind hR
    clear hR
    obtain ⟨w2, hx6, hR⟩ := hq
    obtain ⟨fs3, he4, hv5⟩ := gq_e hx6
    refine X_get (k := 0) C oLr fwLr_7 he4 hv5 dLr_valueAt_6 ?_
    have hq := o_bind hR
    clear hR
    obtain ⟨a7, rfl, hR⟩ := hq
    have hq := o_bind hR
    clear hR
    obtain ⟨u8, hx9, hR⟩ := hq
    obtain ⟨v10, he11, e12⟩ := al_e hx9
    refine X_alen C rfl he11 e12 dLr_valueAt_9 ?_
    refine X_icmp_ge (tgt := 22) C dLr_valueAt_10 (by decide) (fun c13 => ?_) (fun c13 => ?_)
    · rw [if_pos c13] at hR
      refine X_lconst (v := 0) C dLr_valueAt_22 rfl ?_
      rw [← Option.some.inj hR]
      exact X_lret C hr (Nat.le_refl _) (Nat.le_refl _) dLr_valueAt_23 ⟨rfl, rfl, rfl⟩
    · rw [if_neg c13] at hR
      refine X_aload_n C dLr_valueAt_13 rfl ?_
      have hq := o_bind hR
      clear hR
      obtain ⟨w14, hx18, hR⟩ := hq
      obtain ⟨fs15, he16, hv17⟩ := gq_e hx18
      refine X_get (k := 0) C oLr fwLr_7 he16 hv17 dLr_valueAt_14 ?_
      refine X_iload_n C dLr_valueAt_17 rfl ?_
      have hq := o_bind hR
      clear hR
      obtain ⟨a19, rfl, hR⟩ := hq
      have hq := o_bind hR
      clear hR
      obtain ⟨u20, hx21, hR⟩ := hq
      obtain ⟨n22, f23, he24, hi25, e26⟩ := gl_e hx21
      refine X_lald C rfl he24 hi25 dLr_valueAt_18 ?_
      rw [← e26]
      refine X_goto (tgt := 23) C dLr_valueAt_19 (by decide) ?_
      rw [← Option.some.inj hR]
      exact X_lret C hr (Nat.le_refl _) (Nat.le_refl _) dLr_valueAt_23 ⟨rfl, rfl, rfl⟩
theorem Lr_valueAt_c {l : Launch} {G : xG} {B sz : Nat} {o : Nat} {n : Nat} {x1 : Int32} {h : xH} {R : Int64 × xH} (hR : Lr_valueAt_f n o x1 h = some R) : xCon l yLr_valueAt cLr_valueAt 2 (some .long) 0 0 0 0 G B [.ref (o), .int (x1)] h sz (kP (some (.long R.1)) R.2 sz) := xCon.of (by decide) (by exact Nat.le_of_ble_eq_true rfl) (fun F e C hr hnm => X_sub (lv' := [(0, .ref (o)), (1, .int (x1))]) [0, 1] rfl (Lr_valueAt_x C hr hR))
def Lr_isOfKind_f (n : Nat) (o : Nat) (y1 : Option Nat) (h : xH) : Option (Int32 × xH) := oel (y1) (some ((0 : Int32), h)) (fun a1 => (if kc h (a1) 8 = true then some ((0 : Int32), h) else (if kc h (a1) 9 = true then some ((1 : Int32), h) else none)))
set_option maxRecDepth 100000 in
set_option maxHeartbeats 8000000 in
theorem Lr_isOfKind_x {F : xF} {G : xG} {B sz : Nat} {o : Nat} (C : xC F G B cLr_isOfKind RLr 2 0 0 0 0) (hr : (xFM F).sig.returnType = (some .boolean)) {n : Nat} {y1 : Option Nat} {h : xH} {R : Int32 × xH} (hR : Lr_isOfKind_f n o y1 h = some R) : X F G B (xZ F G B (kP (some (.int R.1)) R.2 sz) 0 0) 2 h sz 0 0 0 [(0, .ref (o)), (1, va_rf (y1))] [] := by
  unfold Lr_isOfKind_f at hR
  refine X_aload_nq C dLr_isOfKind_0 rfl ?_
  cases y1 with
  | none =>
    rw [oel_n] at hR
    refine X_inst0 C dLr_isOfKind_1 ?_
    rw [← Option.some.inj hR]
    exact X_zret C hr rfl (Nat.le_refl _) (Nat.le_refl _) dLr_isOfKind_4 ⟨rfl, rfl, rfl⟩
  | some a1 =>
    rw [oel_s] at hR
    by_cases k3 : kc h (a1) 8 = true
    · rw [if_pos k3] at hR
      obtain ⟨fs4, he5⟩ := kc_e k3
      refine X_instNo C oSr.2.1 (by decide) clLr_8 he5 dLr_isOfKind_1 ?_
      rw [← Option.some.inj hR]
      exact X_zret C hr rfl (Nat.le_refl _) (Nat.le_refl _) dLr_isOfKind_4 ⟨rfl, rfl, rfl⟩
    · rw [if_neg k3] at hR
      by_cases k6 : kc h (a1) 9 = true
      · rw [if_pos k6] at hR
        obtain ⟨fs7, he8⟩ := kc_e k6
        refine X_instY C oLr.2.1 (by decide) clLr_8 he8 dLr_isOfKind_1 ?_
        rw [← Option.some.inj hR]
        exact X_zret C hr rfl (Nat.le_refl _) (Nat.le_refl _) dLr_isOfKind_4 ⟨rfl, rfl, rfl⟩
      · rw [if_neg k6] at hR
        cases hR
theorem Lr_isOfKind_c {l : Launch} {G : xG} {B sz : Nat} {o : Nat} {n : Nat} {y1 : Option Nat} {h : xH} {R : Int32 × xH} (hR : Lr_isOfKind_f n o y1 h = some R) : xCon l yLr_isOfKind cLr_isOfKind 2 (some .boolean) 0 0 0 0 G B [.ref (o), va_rf (y1)] h sz (kP (some (.int R.1)) R.2 sz) := xCon.of (by decide) (by simp [lg_sl, rf_cat, cat_i, cat_r, cat_l]) (fun F e C hr hnm => X_sub (lv' := [(0, .ref (o)), (1, va_rf (y1))]) [0, 1] (by simp [lv_args, lv_pick, rf_cat, cat_i, cat_r, cat_l]) (Lr_isOfKind_x C hr hR))
def Ma_init_f (n : Nat) (o : Nat)  (h : xH) (z : Nat) : Option (Int32 × xH × Nat × Nat) := oadd 1 6 (bnd (xup h (z) (.inl (4, 6, .inr (.inr (.inr (.inr (fun _ => none))))))) (fun h1 => obd (pf h1 (o) 5 0 (.ref (z))) (fun h5 => oadd 1 12 (bnd (xup h5 (z + 1) (.inl (5, 12, .inr (.inr (.inr (.inr (fun _ => none))))))) (fun h11 => obd (pf h11 (o) 5 1 (.ref (z + 1))) (fun h15 => some (0, h15, 0, 0)))))))
set_option maxRecDepth 100000 in
set_option maxHeartbeats 8000000 in
theorem Ma_init_x {F : xF} {G : xG} {B mc ms : Nat} {o : Nat} (C : xC F G B cMa_init RMa 1 1 21 mc ms) (hr : (xFM F).sig.returnType = none) (hin : (xFM F).name = "<init>") {n : Nat} {h : xH} {z cs ss : Nat} {R : Int32 × xH × Nat × Nat} {Zf : Nat} (hm : cs + R.2.2.1 ≤ mc) (hs : ss + R.2.2.2 ≤ ms) (hz : Zf = z + R.2.2.1) (hR : Ma_init_f n o  h z = some R) : X F G B (xZ F G B (kP none R.2.1 Zf) mc ms) 1 h z cs ss 0 [(0, .ref (o))] [] := by
  unfold Ma_init_f at hR
  refine X_aload_n C dMa_init_0 rfl ?_
  refine X_obj C obMa_3 ⟨by decide, Nat.le_of_ble_eq_true rfl⟩ dMa_init_1 ?_
  refine X_aload_n C dMa_init_4 rfl ?_
  refine X_bipush (v := 6) C dMa_init_5 (by decide) ?_
  have hq := o_add hR
  clear hR
  obtain ⟨R4, e3, hR⟩ := hq
  subst e3
  dsimp only at hm hs hz ⊢
  refine X_anew (k := 4) (N := 6) C rfl naMa_9 (by decide) (by decide) (by decide) (by omega) (by omega) dMa_init_7 (fun _ _ => ?_)
  have hq := b_bnd hR
  clear hR
  obtain ⟨h1, e2, hR⟩ := hq
  rw [← e2]
  have hq := o_bind hR
  clear hR
  obtain ⟨h5, hh6, hR⟩ := hq
  obtain ⟨fs7, he8, hl9, e10⟩ := pf_e hh6
  refine X_putF (k := 0) C hin oMa fwMa_11 ⟨rfl, rfl⟩ he8 rfl rfl hl9 dMa_init_10 ?_
  rw [← e10]
  refine X_aload_n C dMa_init_13 rfl ?_
  refine X_bipush (v := 12) C dMa_init_14 (by decide) ?_
  have hq := o_add hR
  clear hR
  obtain ⟨R14, e13, hR⟩ := hq
  subst e13
  dsimp only at hm hs hz ⊢
  refine X_anew (k := 5) (N := 12) C rfl naMa_17 (by decide) (by decide) (by decide) (by omega) (by omega) dMa_init_16 (fun _ _ => ?_)
  have hq := b_bnd hR
  clear hR
  obtain ⟨h11, e12, hR⟩ := hq
  rw [← e12]
  have hq := o_bind hR
  clear hR
  obtain ⟨h15, hh16, hR⟩ := hq
  obtain ⟨fs17, he18, hl19, e20⟩ := pf_e hh16
  refine X_putF (k := 1) C hin oMa fwMa_19 ⟨rfl, rfl⟩ he18 rfl rfl hl19 dMa_init_19 ?_
  rw [← e20]
  have hR := Option.some.inj hR
  subst hR
  dsimp only at hm hs hz ⊢
  exact X_vret C hr (by omega) (by omega) dMa_init_22 ⟨rfl, rfl, by omega⟩
theorem Ma_init_c {l : Launch} {G : xG} {B sz : Nat} {o : Nat} {n : Nat} {h : xH} {R : Int32 × xH × Nat × Nat} (hR : Ma_init_f n o  h sz = some R) : xCon l yMa_init cMa_init 1 none 1 21 R.2.2.1 R.2.2.2 G B [.ref (o)] h sz (kP none R.2.1 (sz + R.2.2.1)) := xCon.of (by decide) (by exact Nat.le_of_ble_eq_true rfl) (fun F e C hr hnm => X_sub (lv' := [(0, .ref (o))]) [0] rfl (Ma_init_x C hr hnm (Nat.le_of_eq (Nat.zero_add _)) (Nat.le_of_eq (Nat.zero_add _)) rfl hR))
def Pl_init_f (n : Nat) (o : Nat)  (h : xH) (z : Nat) : Option (Int32 × xH × Nat × Nat) := obd (He_init_f n (o) h) (fun r1 => oadd 1 2 (bnd (xup r1.2 (z) (.inl (0, 2, .inl (fun _ => 0)))) (fun h2 => obd (pf h2 (o) 6 0 (.ref (z))) (fun h6 => oadd 1 2 (bnd (xup h6 (z + 1) (.inl (0, 2, .inl (fun _ => 0)))) (fun h12 => obd (pf h12 (o) 6 1 (.ref (z + 1))) (fun h16 => some (0, h16, 0, 0))))))))
set_option maxRecDepth 100000 in
set_option maxHeartbeats 8000000 in
theorem Pl_init_x {F : xF} {G : xG} {B mc ms : Nat} {o : Nat} (C : xC F G B cPl_init RPl 1 2 41 mc ms) (hr : (xFM F).sig.returnType = none) (hin : (xFM F).name = "<init>") {n : Nat} {h : xH} {z cs ss : Nat} {R : Int32 × xH × Nat × Nat} {Zf : Nat} (hm : cs + R.2.2.1 ≤ mc) (hs : ss + R.2.2.2 ≤ ms) (hz : Zf = z + R.2.2.1) (hR : Pl_init_f n o  h z = some R) : X F G B (xZ F G B (kP none R.2.1 Zf) mc ms) 1 h z cs ss 0 [(0, .ref (o))] [] := by
  unfold Pl_init_f at hR
  refine X_aload_n C dPl_init_0 rfl ?_
  have hq := o_bind hR
  clear hR
  obtain ⟨r1, hr1, hR⟩ := hq
  refine X_callIk (As := []) (rest := []) C (He_init_c hr1) wPl_3 ⟨by decide, by decide⟩ ⟨by omega, by omega⟩ rfl rfl (Nat.le_of_ble_eq_true rfl) dPl_init_1 ?_
  show X F G B _ 1 (r1.2) _ _ _ _ _ []
  refine X_aload_n C dPl_init_4 rfl ?_
  refine X_iconst (v := 2) C dPl_init_5 rfl ?_
  have hq := o_add hR
  clear hR
  obtain ⟨R5, e4, hR⟩ := hq
  subst e4
  dsimp only at hm hs hz ⊢
  refine X_newa (k := 0) (N := 2) (ty := .int) (a0 := (2, .inl (fun _ => 0))) C rfl na_int (fun _ => rfl) (by decide) (by decide) (by decide) (by omega) (by omega) dPl_init_6 (fun _ _ => ?_)
  have hq := b_bnd hR
  clear hR
  obtain ⟨h2, e3, hR⟩ := hq
  rw [← e3]
  have hq := o_bind hR
  clear hR
  obtain ⟨h6, hh7, hR⟩ := hq
  obtain ⟨fs8, he9, hl10, e11⟩ := pf_e hh7
  refine X_putF (k := 0) C hin oPl fwPl_9 ⟨rfl, rfl⟩ he9 rfl rfl hl10 dPl_init_8 ?_
  rw [← e11]
  refine X_aload_n C dPl_init_11 rfl ?_
  refine X_iconst (v := 2) C dPl_init_12 rfl ?_
  have hq := o_add hR
  clear hR
  obtain ⟨R15, e14, hR⟩ := hq
  subst e14
  dsimp only at hm hs hz ⊢
  refine X_newa (k := 0) (N := 2) (ty := .int) (a0 := (2, .inl (fun _ => 0))) C rfl na_int (fun _ => rfl) (by decide) (by decide) (by decide) (by omega) (by omega) dPl_init_13 (fun _ _ => ?_)
  have hq := b_bnd hR
  clear hR
  obtain ⟨h12, e13, hR⟩ := hq
  rw [← e13]
  have hq := o_bind hR
  clear hR
  obtain ⟨h16, hh17, hR⟩ := hq
  obtain ⟨fs18, he19, hl20, e21⟩ := pf_e hh17
  refine X_putF (k := 1) C hin oPl fwPl_15 ⟨rfl, rfl⟩ he19 rfl rfl hl20 dPl_init_15 ?_
  rw [← e21]
  have hR := Option.some.inj hR
  subst hR
  dsimp only at hm hs hz ⊢
  exact X_vret C hr (by omega) (by omega) dPl_init_18 ⟨rfl, rfl, by omega⟩
theorem Pl_init_c {l : Launch} {G : xG} {B sz : Nat} {o : Nat} {n : Nat} {h : xH} {R : Int32 × xH × Nat × Nat} (hR : Pl_init_f n o  h sz = some R) : xCon l yPl_init cPl_init 1 none 2 41 R.2.2.1 R.2.2.2 G B [.ref (o)] h sz (kP none R.2.1 (sz + R.2.2.1)) := xCon.of (by decide) (by exact Nat.le_of_ble_eq_true rfl) (fun F e C hr hnm => X_sub (lv' := [(0, .ref (o))]) [0] rfl (Pl_init_x C hr hnm (Nat.le_of_eq (Nat.zero_add _)) (Nat.le_of_eq (Nat.zero_add _)) rfl hR))
def Pl_asItIs_f (n : Nat) (o : Nat)  (h : xH) (z : Nat) : Option (Option Nat × xH × Nat × Nat) := oadd 1 3 (bnd (xup h (z) (.inr (6, [.null, .null, .int 0]))) (fun h1 => obd (Pl_init_f n (z) h1 (z + 1)) (fun r5 => oadd r5.2.2.1 r5.2.2.2 (obd (gq r5.2.1 (o) 6 0) (fun w6 => obd (gq r5.2.1 (z) 6 0) (fun w11 => obd w6 (fun a16 => obd w11 (fun a17 => obd (cpi r5.2.1 (a16) ((0 : Int32)) (a17) ((0 : Int32)) ((2 : Int32))) (fun h18 => obd (gq h18 (o) 6 1) (fun w32 => obd (gq h18 (z) 6 1) (fun w37 => obd w32 (fun a42 => obd w37 (fun a43 => obd (cpi h18 (a42) ((0 : Int32)) (a43) ((0 : Int32)) ((2 : Int32))) (fun h44 => obd (gi h44 (o) 6 2) (fun u58 => obd (pf h44 (z) 6 2 (.int (u58))) (fun h63 => some ((some (z)), h63, 0, 0)))))))))))))))))
set_option maxRecDepth 100000 in
set_option maxHeartbeats 8000000 in
theorem Pl_asItIs_x {F : xF} {G : xG} {B mc ms : Nat} {o : Nat} (C : xC F G B cPl_asItIs RPl 2 3 61 mc ms) (hr : (xFM F).sig.returnType = (some (.object "TimedYard$Place"))) {n : Nat} {h : xH} {z cs ss : Nat} {R : Option Nat × xH × Nat × Nat} {Zf : Nat} (hm : cs + R.2.2.1 ≤ mc) (hs : ss + R.2.2.2 ≤ ms) (hz : Zf = z + R.2.2.1) (hR : Pl_asItIs_f n o  h z = some R) : X F G B (xZ F G B (kP (some (va_rf R.1)) R.2.1 Zf) mc ms) 2 h z cs ss 0 [(0, .ref (o))] [] := by
  unfold Pl_asItIs_f at hR
  have hq := o_add hR
  clear hR
  obtain ⟨R4, e3, hR⟩ := hq
  subst e3
  dsimp only at hm hs hz ⊢
  refine X_new (fs := [.null, .null, .int 0]) C oPl nwPl_10 (fun j hj => by rcases (show j = 0 ∨ j = 1 ∨ j = 2 by omega) with rfl | rfl | rfl <;> rfl) (by omega) (by omega) dPl_asItIs_0 (fun _ _ => ?_)
  have hq := b_bnd hR
  clear hR
  obtain ⟨h1, e2, hR⟩ := hq
  rw [← e2]
  refine X_dup C dPl_asItIs_3 rfl ?_
  have hq := o_bind hR
  clear hR
  obtain ⟨r5, hr5, hR⟩ := hq
  have hq := o_add hR
  clear hR
  obtain ⟨R70, e69, hR⟩ := hq
  subst e69
  dsimp only at hm hs hz ⊢
  refine X_callIa (As := []) (rest := [.ref (z)]) C (Pl_init_c hr5) wPl_18 ⟨by decide, by decide⟩ ⟨by omega, by omega⟩ rfl rfl (Nat.le_of_ble_eq_true rfl) dPl_asItIs_4 ?_
  show X F G B _ 2 (r5.2.1) _ _ _ _ _ [.ref (z)]
  refine X_astore_n (lv' := [(1, .ref (z)), (0, .ref (o))]) C dPl_asItIs_7 (by decide) rfl ?_
  refine X_aload_n C dPl_asItIs_8 rfl ?_
  have hq := o_bind hR
  clear hR
  obtain ⟨w6, hx10, hR⟩ := hq
  obtain ⟨fs7, he8, hv9⟩ := gq_e hx10
  refine X_get (k := 0) C oPl fwPl_9 he8 hv9 dPl_asItIs_9 ?_
  refine X_iconst (v := 0) C dPl_asItIs_12 rfl ?_
  refine X_aload_n C dPl_asItIs_13 rfl ?_
  have hq := o_bind hR
  clear hR
  obtain ⟨w11, hx15, hR⟩ := hq
  obtain ⟨fs12, he13, hv14⟩ := gq_e hx15
  refine X_get (k := 0) C oPl fwPl_9 he13 hv14 dPl_asItIs_14 ?_
  refine X_iconst (v := 0) C dPl_asItIs_17 rfl ?_
  refine X_iconst (v := 2) C dPl_asItIs_18 rfl ?_
  have hq := o_bind hR
  clear hR
  obtain ⟨a16, rfl, hR⟩ := hq
  have hq := o_bind hR
  clear hR
  obtain ⟨a17, rfl, hR⟩ := hq
  have hq := o_bind hR
  clear hR
  obtain ⟨h18, hh19, hR⟩ := hq
  obtain ⟨n20, n21, n22, n23, n24, n25, n26, n27, n28, n29, n30, n31⟩ := cpi_e hh19
  refine X_copyi C cpPl_19 rfl n24 n25 n26 n27 n28 n29 n30 ⟨by decide, Nat.le_of_ble_eq_true rfl⟩ dPl_asItIs_19 ?_
  rw [← n31]
  refine X_aload_n C dPl_asItIs_22 rfl ?_
  have hq := o_bind hR
  clear hR
  obtain ⟨w32, hx36, hR⟩ := hq
  obtain ⟨fs33, he34, hv35⟩ := gq_e hx36
  refine X_get (k := 1) C oPl fwPl_15 he34 hv35 dPl_asItIs_23 ?_
  refine X_iconst (v := 0) C dPl_asItIs_26 rfl ?_
  refine X_aload_n C dPl_asItIs_27 rfl ?_
  have hq := o_bind hR
  clear hR
  obtain ⟨w37, hx41, hR⟩ := hq
  obtain ⟨fs38, he39, hv40⟩ := gq_e hx41
  refine X_get (k := 1) C oPl fwPl_15 he39 hv40 dPl_asItIs_28 ?_
  refine X_iconst (v := 0) C dPl_asItIs_31 rfl ?_
  refine X_iconst (v := 2) C dPl_asItIs_32 rfl ?_
  have hq := o_bind hR
  clear hR
  obtain ⟨a42, rfl, hR⟩ := hq
  have hq := o_bind hR
  clear hR
  obtain ⟨a43, rfl, hR⟩ := hq
  have hq := o_bind hR
  clear hR
  obtain ⟨h44, hh45, hR⟩ := hq
  obtain ⟨n46, n47, n48, n49, n50, n51, n52, n53, n54, n55, n56, n57⟩ := cpi_e hh45
  refine X_copyi C cpPl_19 rfl n50 n51 n52 n53 n54 n55 n56 ⟨by decide, Nat.le_of_ble_eq_true rfl⟩ dPl_asItIs_33 ?_
  rw [← n57]
  refine X_aload_n C dPl_asItIs_36 rfl ?_
  refine X_aload_n C dPl_asItIs_37 rfl ?_
  have hq := o_bind hR
  clear hR
  obtain ⟨u58, hx62, hR⟩ := hq
  obtain ⟨fs59, he60, hv61⟩ := gi_e hx62
  refine X_get (k := 2) C oPl fwPl_25 he60 hv61 dPl_asItIs_38 ?_
  have hq := o_bind hR
  clear hR
  obtain ⟨h63, hh64, hR⟩ := hq
  obtain ⟨fs65, he66, hl67, e68⟩ := pf_e hh64
  refine X_put (k := 2) C oPl fwPl_25 rfl he66 rfl rfl hl67 dPl_asItIs_41 ?_
  rw [← e68]
  refine X_aload_n C dPl_asItIs_44 rfl ?_
  have hR := Option.some.inj hR
  subst hR
  dsimp only at hm hs hz ⊢
  exact X_aret C hr (Or.inl ⟨_, rfl⟩) (Or.inr ⟨_, rfl⟩) (by omega) (by omega) dPl_asItIs_45 ⟨rfl, rfl, by omega⟩
theorem Pl_asItIs_c {l : Launch} {G : xG} {B sz : Nat} {o : Nat} {n : Nat} {h : xH} {R : Option Nat × xH × Nat × Nat} (hR : Pl_asItIs_f n o  h sz = some R) : xCon l yPl_asItIs cPl_asItIs 2 (some (.object "TimedYard$Place")) 3 61 R.2.2.1 R.2.2.2 G B [.ref (o)] h sz (kP (some (va_rf R.1)) R.2.1 (sz + R.2.2.1)) := xCon.of (by decide) (by exact Nat.le_of_ble_eq_true rfl) (fun F e C hr hnm => X_sub (lv' := [(0, .ref (o))]) [0] rfl (Pl_asItIs_x C hr (Nat.le_of_eq (Nat.zero_add _)) (Nat.le_of_eq (Nat.zero_add _)) rfl hR))
def Pl_heft_f (n : Nat) (o : Nat)  (h : xH) : Option (Int32 × xH) := obd (gi h (o) 6 2) (fun u1 => some (((3 : Int32)) + (u1), h))
set_option maxRecDepth 100000 in
set_option maxHeartbeats 8000000 in
theorem Pl_heft_x {F : xF} {G : xG} {B sz : Nat} {o : Nat} (C : xC F G B cPl_heft RPl 1 0 0 0 0) (hr : (xFM F).sig.returnType = (some .int)) {n : Nat} {h : xH} {R : Int32 × xH} (hR : Pl_heft_f n o  h = some R) : X F G B (xZ F G B (kP (some (.int R.1)) R.2 sz) 0 0) 1 h sz 0 0 0 [(0, .ref (o))] [] := by
  unfold Pl_heft_f at hR
  refine X_iconst (v := 3) C dPl_heft_0 rfl ?_
  refine X_aload_n C dPl_heft_1 rfl ?_
  have hq := o_bind hR
  clear hR
  obtain ⟨u1, hx5, hR⟩ := hq
  obtain ⟨fs2, he3, hv4⟩ := gi_e hx5
  refine X_get (k := 2) C oPl fwPl_25 he3 hv4 dPl_heft_2 ?_
  refine X_iadd C dPl_heft_5 ?_
  rw [← Option.some.inj hR]
  exact X_iret C hr (Nat.le_refl _) (Nat.le_refl _) dPl_heft_6 ⟨rfl, rfl, rfl⟩
theorem Pl_heft_c {l : Launch} {G : xG} {B sz : Nat} {o : Nat} {n : Nat} {h : xH} {R : Int32 × xH} (hR : Pl_heft_f n o  h = some R) : xCon l yPl_heft cPl_heft 1 (some .int) 0 0 0 0 G B [.ref (o)] h sz (kP (some (.int R.1)) R.2 sz) := xCon.of (by decide) (by exact Nat.le_of_ble_eq_true rfl) (fun F e C hr hnm => X_sub (lv' := [(0, .ref (o))]) [0] rfl (Pl_heft_x C hr hR))
def Ro_heft_f (n : Nat) (o : Nat)  (h : xH) : Option (Int32 × xH) := some (((-12) : Int32), h)
set_option maxRecDepth 100000 in
set_option maxHeartbeats 8000000 in
theorem Ro_heft_x {F : xF} {G : xG} {B sz : Nat} {o : Nat} (C : xC F G B cRo_heft RRo 1 0 0 0 0) (hr : (xFM F).sig.returnType = (some .int)) {n : Nat} {h : xH} {R : Int32 × xH} (hR : Ro_heft_f n o  h = some R) : X F G B (xZ F G B (kP (some (.int R.1)) R.2 sz) 0 0) 1 h sz 0 0 0 [(0, .ref (o))] [] := by
  unfold Ro_heft_f at hR
  refine X_bipush (v := (-12)) C dRo_heft_0 (by decide) ?_
  rw [← Option.some.inj hR]
  exact X_iret C hr (Nat.le_refl _) (Nat.le_refl _) dRo_heft_2 ⟨rfl, rfl, rfl⟩
theorem Ro_heft_c {l : Launch} {G : xG} {B sz : Nat} {o : Nat} {n : Nat} {h : xH} {R : Int32 × xH} (hR : Ro_heft_f n o  h = some R) : xCon l yRo_heft cRo_heft 1 (some .int) 0 0 0 0 G B [.ref (o)] h sz (kP (some (.int R.1)) R.2 sz) := xCon.of (by decide) (by exact Nat.le_of_ble_eq_true rfl) (fun F e C hr hnm => X_sub (lv' := [(0, .ref (o))]) [0] rfl (Ro_heft_x C hr hR))
def Sr_init_f (n : Nat) (o : Nat) (y1 : Option Nat) (h : xH) : Option (Int32 × xH) := obd (Ro_init_f n (o) h) (fun r1 => obd (pf r1.2 (o) 8 0 (va_rf (y1))) (fun h2 => some (0, h2)))
set_option maxRecDepth 100000 in
set_option maxHeartbeats 8000000 in
theorem Sr_init_x {F : xF} {G : xG} {B sz : Nat} {o : Nat} (C : xC F G B cSr_init RSr 2 3 61 0 0) (hr : (xFM F).sig.returnType = none) (hin : (xFM F).name = "<init>") {n : Nat} {y1 : Option Nat} {h : xH} {R : Int32 × xH} (hR : Sr_init_f n o y1 h = some R) : X F G B (xZ F G B (kP none R.2 sz) 0 0) 2 h sz 0 0 0 [(0, .ref (o)), (1, va_rf (y1))] [] := by
  unfold Sr_init_f at hR
  refine X_aload_n C dSr_init_0 rfl ?_
  have hq := o_bind hR
  clear hR
  obtain ⟨r1, hr1, hR⟩ := hq
  refine X_callIk (As := []) (rest := []) C (Ro_init_c hr1) wSr_1 ⟨by decide, by decide⟩ ⟨Nat.le_refl _, Nat.le_refl _⟩ rfl rfl (Nat.le_of_ble_eq_true rfl) dSr_init_1 ?_
  show X F G B _ 2 (r1.2) _ _ _ _ _ []
  refine X_aload_n C dSr_init_4 rfl ?_
  refine X_aload_nq C dSr_init_5 rfl ?_
  have hq := o_bind hR
  clear hR
  obtain ⟨h2, hh3, hR⟩ := hq
  obtain ⟨fs4, he5, hl6, e7⟩ := pf_e hh3
  refine X_putF (k := 0) C hin oSr fwSr_7 ⟨rfl, rfl⟩ he5 (nq_a _) (fq_a _) hl6 dSr_init_6 ?_
  rw [← e7]
  rw [← Option.some.inj hR]
  exact X_vret C hr (Nat.le_refl _) (Nat.le_refl _) dSr_init_9 ⟨rfl, rfl, rfl⟩
theorem Sr_init_c {l : Launch} {G : xG} {B sz : Nat} {o : Nat} {n : Nat} {y1 : Option Nat} {h : xH} {R : Int32 × xH} (hR : Sr_init_f n o y1 h = some R) : xCon l ySr_init cSr_init 2 none 3 61 0 0 G B [.ref (o), va_rf (y1)] h sz (kP none R.2 sz) := xCon.of (by decide) (by simp [lg_sl, rf_cat, cat_i, cat_r, cat_l]) (fun F e C hr hnm => X_sub (lv' := [(0, .ref (o)), (1, va_rf (y1))]) [0, 1] (by simp [lv_args, lv_pick, rf_cat, cat_i, cat_r, cat_l]) (Sr_init_x C hr hnm hR))
def Sr_size_f (n : Nat) (o : Nat)  (h : xH) : Option (Int32 × xH) := obd (gq h (o) 8 0) (fun w1 => obd w1 (fun a6 => obd (al h (a6) 3) (fun u7 => some (u7, h))))
set_option maxRecDepth 100000 in
set_option maxHeartbeats 8000000 in
theorem Sr_size_x {F : xF} {G : xG} {B sz : Nat} {o : Nat} (C : xC F G B cSr_size RSr 1 0 0 0 0) (hr : (xFM F).sig.returnType = (some .int)) {n : Nat} {h : xH} {R : Int32 × xH} (hR : Sr_size_f n o  h = some R) : X F G B (xZ F G B (kP (some (.int R.1)) R.2 sz) 0 0) 1 h sz 0 0 0 [(0, .ref (o))] [] := by
  unfold Sr_size_f at hR
  refine X_aload_n C dSr_size_0 rfl ?_
  have hq := o_bind hR
  clear hR
  obtain ⟨w1, hx5, hR⟩ := hq
  obtain ⟨fs2, he3, hv4⟩ := gq_e hx5
  refine X_get (k := 0) C oSr fwSr_7 he3 hv4 dSr_size_1 ?_
  have hq := o_bind hR
  clear hR
  obtain ⟨a6, rfl, hR⟩ := hq
  have hq := o_bind hR
  clear hR
  obtain ⟨u7, hx8, hR⟩ := hq
  obtain ⟨v9, he10, e11⟩ := al_e hx8
  refine X_alen C rfl he10 e11 dSr_size_4 ?_
  rw [← Option.some.inj hR]
  exact X_iret C hr (Nat.le_refl _) (Nat.le_refl _) dSr_size_5 ⟨rfl, rfl, rfl⟩
theorem Sr_size_c {l : Launch} {G : xG} {B sz : Nat} {o : Nat} {n : Nat} {h : xH} {R : Int32 × xH} (hR : Sr_size_f n o  h = some R) : xCon l ySr_size cSr_size 1 (some .int) 0 0 0 0 G B [.ref (o)] h sz (kP (some (.int R.1)) R.2 sz) := xCon.of (by decide) (by exact Nat.le_of_ble_eq_true rfl) (fun F e C hr hnm => X_sub (lv' := [(0, .ref (o))]) [0] rfl (Sr_size_x C hr hR))
def Sr_valueAt_f (n : Nat) (o : Nat) (x1 : Int32) (h : xH) : Option (Int64 × xH) := (if x1 < 0 then some ((0 : Int64), h) else obd (gq h (o) 8 0) (fun w2 => obd w2 (fun a7 => obd (al h (a7) 3) (fun u8 => (if u8 ≤ x1 then some ((0 : Int64), h) else obd (gq h (o) 8 0) (fun w14 => obd w14 (fun a19 => obd (ai h (a19) 3 (x1)) (fun u20 => some (Int32.toInt64 (u20), h)))))))))
set_option maxRecDepth 100000 in
set_option maxHeartbeats 8000000 in
theorem Sr_valueAt_x {F : xF} {G : xG} {B sz : Nat} {o : Nat} (C : xC F G B cSr_valueAt RSr 2 0 0 0 0) (hr : (xFM F).sig.returnType = (some .long)) {n : Nat} {x1 : Int32} {h : xH} {R : Int64 × xH} (hR : Sr_valueAt_f n o x1 h = some R) : X F G B (xZ F G B (kP (some (.long R.1)) R.2 sz) 0 0) 2 h sz 0 0 0 [(0, .ref (o)), (1, .int (x1))] [] := by
  unfold Sr_valueAt_f at hR
  refine X_iload_n C dSr_valueAt_0 rfl ?_
  refine X_if_lt (tgt := 23) C dSr_valueAt_1 (by decide) (fun c1 => ?_) (fun c1 => ?_)
  · rw [if_pos c1] at hR
    refine X_lconst (v := 0) C dSr_valueAt_23 rfl ?_
    rw [← Option.some.inj hR]
    exact X_lret C hr (Nat.le_refl _) (Nat.le_refl _) dSr_valueAt_24 ⟨rfl, rfl, rfl⟩
  · rw [if_neg c1] at hR
    refine X_iload_n C dSr_valueAt_4 rfl ?_
    refine X_aload_n C dSr_valueAt_5 rfl ?_
    have hq := o_bind hR
    clear hR
    obtain ⟨w2, hx6, hR⟩ := hq
    obtain ⟨fs3, he4, hv5⟩ := gq_e hx6
    refine X_get (k := 0) C oSr fwSr_7 he4 hv5 dSr_valueAt_6 ?_
    have hq := o_bind hR
    clear hR
    obtain ⟨a7, rfl, hR⟩ := hq
    have hq := o_bind hR
    clear hR
    obtain ⟨u8, hx9, hR⟩ := hq
    obtain ⟨v10, he11, e12⟩ := al_e hx9
    refine X_alen C rfl he11 e12 dSr_valueAt_9 ?_
    refine X_icmp_ge (tgt := 23) C dSr_valueAt_10 (by decide) (fun c13 => ?_) (fun c13 => ?_)
    · rw [if_pos c13] at hR
      refine X_lconst (v := 0) C dSr_valueAt_23 rfl ?_
      rw [← Option.some.inj hR]
      exact X_lret C hr (Nat.le_refl _) (Nat.le_refl _) dSr_valueAt_24 ⟨rfl, rfl, rfl⟩
    · rw [if_neg c13] at hR
      refine X_aload_n C dSr_valueAt_13 rfl ?_
      have hq := o_bind hR
      clear hR
      obtain ⟨w14, hx18, hR⟩ := hq
      obtain ⟨fs15, he16, hv17⟩ := gq_e hx18
      refine X_get (k := 0) C oSr fwSr_7 he16 hv17 dSr_valueAt_14 ?_
      refine X_iload_n C dSr_valueAt_17 rfl ?_
      have hq := o_bind hR
      clear hR
      obtain ⟨a19, rfl, hR⟩ := hq
      have hq := o_bind hR
      clear hR
      obtain ⟨u20, hx21, hR⟩ := hq
      obtain ⟨n22, f23, he24, hi25, e26⟩ := ai_e hx21
      refine X_sald C rfl he24 hi25 dSr_valueAt_18 ?_
      rw [← e26]
      refine X_i2l C dSr_valueAt_19 ?_
      refine X_goto (tgt := 24) C dSr_valueAt_20 (by decide) ?_
      rw [← Option.some.inj hR]
      exact X_lret C hr (Nat.le_refl _) (Nat.le_refl _) dSr_valueAt_24 ⟨rfl, rfl, rfl⟩
theorem Sr_valueAt_c {l : Launch} {G : xG} {B sz : Nat} {o : Nat} {n : Nat} {x1 : Int32} {h : xH} {R : Int64 × xH} (hR : Sr_valueAt_f n o x1 h = some R) : xCon l ySr_valueAt cSr_valueAt 2 (some .long) 0 0 0 0 G B [.ref (o), .int (x1)] h sz (kP (some (.long R.1)) R.2 sz) := xCon.of (by decide) (by exact Nat.le_of_ble_eq_true rfl) (fun F e C hr hnm => X_sub (lv' := [(0, .ref (o)), (1, .int (x1))]) [0, 1] rfl (Sr_valueAt_x C hr hR))
def Sr_isOfKind_f (n : Nat) (o : Nat) (y1 : Option Nat) (h : xH) : Option (Int32 × xH) := oel (y1) (some ((0 : Int32), h)) (fun a1 => (if kc h (a1) 8 = true then some ((1 : Int32), h) else (if kc h (a1) 9 = true then some ((0 : Int32), h) else none)))
set_option maxRecDepth 100000 in
set_option maxHeartbeats 8000000 in
theorem Sr_isOfKind_x {F : xF} {G : xG} {B sz : Nat} {o : Nat} (C : xC F G B cSr_isOfKind RSr 2 0 0 0 0) (hr : (xFM F).sig.returnType = (some .boolean)) {n : Nat} {y1 : Option Nat} {h : xH} {R : Int32 × xH} (hR : Sr_isOfKind_f n o y1 h = some R) : X F G B (xZ F G B (kP (some (.int R.1)) R.2 sz) 0 0) 2 h sz 0 0 0 [(0, .ref (o)), (1, va_rf (y1))] [] := by
  unfold Sr_isOfKind_f at hR
  refine X_aload_nq C dSr_isOfKind_0 rfl ?_
  cases y1 with
  | none =>
    rw [oel_n] at hR
    refine X_inst0 C dSr_isOfKind_1 ?_
    rw [← Option.some.inj hR]
    exact X_zret C hr rfl (Nat.le_refl _) (Nat.le_refl _) dSr_isOfKind_4 ⟨rfl, rfl, rfl⟩
  | some a1 =>
    rw [oel_s] at hR
    by_cases k3 : kc h (a1) 8 = true
    · rw [if_pos k3] at hR
      obtain ⟨fs4, he5⟩ := kc_e k3
      refine X_instY C oSr.2.1 (by decide) clSr_8 he5 dSr_isOfKind_1 ?_
      rw [← Option.some.inj hR]
      exact X_zret C hr rfl (Nat.le_refl _) (Nat.le_refl _) dSr_isOfKind_4 ⟨rfl, rfl, rfl⟩
    · rw [if_neg k3] at hR
      by_cases k6 : kc h (a1) 9 = true
      · rw [if_pos k6] at hR
        obtain ⟨fs7, he8⟩ := kc_e k6
        refine X_instNo C oLr.2.1 (by decide) clSr_8 he8 dSr_isOfKind_1 ?_
        rw [← Option.some.inj hR]
        exact X_zret C hr rfl (Nat.le_refl _) (Nat.le_refl _) dSr_isOfKind_4 ⟨rfl, rfl, rfl⟩
      · rw [if_neg k6] at hR
        cases hR
theorem Sr_isOfKind_c {l : Launch} {G : xG} {B sz : Nat} {o : Nat} {n : Nat} {y1 : Option Nat} {h : xH} {R : Int32 × xH} (hR : Sr_isOfKind_f n o y1 h = some R) : xCon l ySr_isOfKind cSr_isOfKind 2 (some .boolean) 0 0 0 0 G B [.ref (o), va_rf (y1)] h sz (kP (some (.int R.1)) R.2 sz) := xCon.of (by decide) (by simp [lg_sl, rf_cat, cat_i, cat_r, cat_l]) (fun F e C hr hnm => X_sub (lv' := [(0, .ref (o)), (1, va_rf (y1))]) [0, 1] (by simp [lv_args, lv_pick, rf_cat, cat_i, cat_r, cat_l]) (Sr_isOfKind_x C hr hR))
def J7_fill_53178_t0 (f : Nat → Option Nat → Int32 → Int32 → Int32 → xH → Option (Int32 × xH)) (n : Nat) (y0 : Option Nat) (x1 : Int32) (x2 : Int32) (x3 : Int32) (h : xH) : Option (Int32 × xH) := obd y0 (fun a1 => obd (al h (a1) 0) (fun u2 => f 5 (some (a1)) (x1) ((0 : Int32)) (u2) h))
def J7_fill_53178_t5 (f : Nat → Option Nat → Int32 → Int32 → Int32 → xH → Option (Int32 × xH)) (n : Nat) (y0 : Option Nat) (x1 : Int32) (x2 : Int32) (x3 : Int32) (h : xH) : Option (Int32 × xH) := (if x3 ≤ x2 then some (0, h) else obd y0 (fun a8 => obd (pa h (a8) 0 (x2) (x1)) (fun h9 => f 5 (some (a8)) (x1) (x2 + 1) (x3) h9)))
def J7_fill_53178_f : Nat → Nat → Option Nat → Int32 → Int32 → Int32 → xH → Option (Int32 × xH)
  | 0 => fun _ _ _ _ _ _ => none
  | n + 1 => fun p y0 x1 x2 x3 h => if p = 0 then J7_fill_53178_t0 (J7_fill_53178_f n) n y0 x1 x2 x3 h else if p = 5 then J7_fill_53178_t5 (J7_fill_53178_f n) n y0 x1 x2 x3 h else none
theorem J7_fill_53178_e0 (n : Nat) (y0 : Option Nat) (x1 : Int32) (x2 : Int32) (x3 : Int32) (h : xH) : J7_fill_53178_f (n + 1) 0 y0 x1 x2 x3 h = J7_fill_53178_t0 (J7_fill_53178_f n) n y0 x1 x2 x3 h := by
  show (if 0 = 0 then J7_fill_53178_t0 (J7_fill_53178_f n) n y0 x1 x2 x3 h else if 0 = 5 then J7_fill_53178_t5 (J7_fill_53178_f n) n y0 x1 x2 x3 h else none) = _
  rw [if_pos rfl]
theorem J7_fill_53178_e5 (n : Nat) (y0 : Option Nat) (x1 : Int32) (x2 : Int32) (x3 : Int32) (h : xH) : J7_fill_53178_f (n + 1) 5 y0 x1 x2 x3 h = J7_fill_53178_t5 (J7_fill_53178_f n) n y0 x1 x2 x3 h := by
  show (if 5 = 0 then J7_fill_53178_t0 (J7_fill_53178_f n) n y0 x1 x2 x3 h else if 5 = 5 then J7_fill_53178_t5 (J7_fill_53178_f n) n y0 x1 x2 x3 h else none) = _
  rw [if_neg (by decide), if_pos rfl]
set_option maxRecDepth 100000 in
set_option maxHeartbeats 8000000 in
theorem J7_fill_53178_x {F : xF} {G : xG} {B sz : Nat} (C : xC F G B cJ7_fill_53178 RJ7 4 0 0 0 0) (hr : (xFM F).sig.returnType = none) : ∀ (n : Nat) (y0 : Option Nat) (x1 : Int32) (x2 : Int32) (x3 : Int32) (h : xH) (R : Int32 × xH), (J7_fill_53178_f n 0 y0 x1 x2 x3 h = some R → X F G B (xZ F G B (kP none R.2 sz) 0 0) 4 h sz 0 0 0 [(0, va_rf (y0)), (1, .int (x1))] []) ∧ (J7_fill_53178_f n 5 y0 x1 x2 x3 h = some R → X F G B (xZ F G B (kP none R.2 sz) 0 0) 4 h sz 0 0 5 [(0, va_rf (y0)), (1, .int (x1)), (2, .int (x2)), (3, .int (x3))] []) := by
  intro n
  induction n with
  | zero => exact fun _ _ _ _ _ _ => ⟨(fun hR => nomatch (show (none : Option _) = some _ from hR)), (fun hR => nomatch (show (none : Option _) = some _ from hR))⟩
  | succ n ih =>
    intro y0 x1 x2 x3 h R
    refine ⟨fun hR => ?_, fun hR => ?_⟩
    · rw [J7_fill_53178_e0] at hR
      unfold J7_fill_53178_t0 at hR
      refine X_iconst (v := 0) C dJ7_fill_53178_0 rfl ?_
      refine X_istore_n (lv' := [(2, .int ((0 : Int32))), (0, va_rf (y0)), (1, .int (x1))]) C dJ7_fill_53178_1 (by decide) (by simp [rf_cat, cat_i, cat_r, cat_l, rf_n, rf_s] <;> decide) ?_
      refine X_aload_nq C dJ7_fill_53178_2 rfl ?_
      have hq := o_bind hR
      clear hR
      obtain ⟨a1, rfl, hR⟩ := hq
      have hq := o_bind hR
      clear hR
      obtain ⟨u2, hx3, hR⟩ := hq
      obtain ⟨v4, he5, e6⟩ := al_e hx3
      refine X_alen C rfl he5 e6 dJ7_fill_53178_3 ?_
      refine X_istore_n (lv' := [(3, .int (u2)), (2, .int ((0 : Int32))), (0, .ref (a1)), (1, .int (x1))]) C dJ7_fill_53178_4 (by decide) rfl ?_
      refine X_sub (lv' := [(0, va_rf ((some (a1)))), (1, .int (x1)), (2, .int ((0 : Int32))), (3, .int (u2))]) [2, 3, 1, 0] rfl ?_
      exact (ih (some (a1)) (x1) ((0 : Int32)) (u2) _ _).2 hR
    · rw [J7_fill_53178_e5] at hR
      unfold J7_fill_53178_t5 at hR
      refine X_iload_n C dJ7_fill_53178_5 rfl ?_
      refine X_iload_n C dJ7_fill_53178_6 rfl ?_
      refine X_icmp_ge (tgt := 20) C dJ7_fill_53178_7 (by decide) (fun c7 => ?_) (fun c7 => ?_)
      · rw [if_pos c7] at hR
        rw [← Option.some.inj hR]
        exact X_vret C hr (Nat.le_refl _) (Nat.le_refl _) dJ7_fill_53178_20 ⟨rfl, rfl, rfl⟩
      · rw [if_neg c7] at hR
        refine X_aload_nq C dJ7_fill_53178_10 rfl ?_
        refine X_iload_n C dJ7_fill_53178_11 rfl ?_
        refine X_iload_n C dJ7_fill_53178_12 rfl ?_
        have hq := o_bind hR
        clear hR
        obtain ⟨a8, rfl, hR⟩ := hq
        have hq := o_bind hR
        clear hR
        obtain ⟨h9, hh10, hR⟩ := hq
        obtain ⟨n11, f12, he13, hi14, e15⟩ := pa_e hh10
        refine X_iast C rfl he13 hi14 dJ7_fill_53178_13 ?_
        rw [← e15]
        refine X_iinc (v := x2 + 1) (lv' := [(2, .int (x2 + 1)), (0, .ref (a8)), (1, .int (x1)), (3, .int (x3))]) C dJ7_fill_53178_14 rfl rfl (by decide) rfl ?_
        refine X_goto (tgt := 5) C dJ7_fill_53178_17 (by decide) ?_
        refine X_sub (lv' := [(0, va_rf ((some (a8)))), (1, .int (x1)), (2, .int (x2 + 1)), (3, .int (x3))]) [1, 2, 0, 3] rfl ?_
        exact (ih (some (a8)) (x1) (x2 + 1) (x3) _ _).2 hR
theorem J7_fill_53178_c {l : Launch} {G : xG} {B sz : Nat} {n : Nat} {y0 : Option Nat} {x1 : Int32} {h : xH} {R : Int32 × xH} (hR : J7_fill_53178_f n 0 y0 x1 0 0 h = some R) : xCon l yJ7_fill_53178 cJ7_fill_53178 4 none 0 0 0 0 G B [va_rf (y0), .int (x1)] h sz (kP none R.2 sz) := xCon.of (by decide) (by simp [lg_sl, rf_cat, cat_i, cat_r, cat_l]) (fun F e C hr hnm => X_sub (lv' := [(0, va_rf (y0)), (1, .int (x1))]) [0, 1] (by simp [lv_args, lv_pick, rf_cat, cat_i, cat_r, cat_l]) ((J7_fill_53178_x C hr n y0 x1 0 0 h R).1 hR))
def Zo_init_f (n : Nat) (o : Nat) (x1 : Int32) (h : xH) (z : Nat) : Option (Int32 × xH × Nat × Nat) := (if x1 = 0 then obd (pf h (o) 1 0 (.int ((4 : Int32)))) (fun h2 => (if x1 = 0 then oadd 1 16 (bnd (xup h2 (z) (.inl (0, 16, .inl (fun _ => 0)))) (fun h9 => obd (pf h9 (o) 1 1 (.ref (z))) (fun h13 => obd (gq h13 (o) 1 1) (fun w19 => obd (J7_fill_53178_f n 0 (w19) ((1 : Int32)) 0 0 h13) (fun r24 => some (0, r24.2, 0, 0)))))) else oadd 1 25 (bnd (xup h2 (z) (.inl (0, 25, .inl (fun _ => 0)))) (fun h25 => obd (pf h25 (o) 1 1 (.ref (z))) (fun h29 => obd (gq h29 (o) 1 1) (fun w35 => obd (J7_fill_53178_f n 0 (w35) ((1 : Int32)) 0 0 h29) (fun r40 => some (0, r40.2, 0, 0)))))))) else obd (pf h (o) 1 0 (.int ((5 : Int32)))) (fun h41 => (if x1 = 0 then oadd 1 16 (bnd (xup h41 (z) (.inl (0, 16, .inl (fun _ => 0)))) (fun h48 => obd (pf h48 (o) 1 1 (.ref (z))) (fun h52 => obd (gq h52 (o) 1 1) (fun w58 => obd (J7_fill_53178_f n 0 (w58) ((1 : Int32)) 0 0 h52) (fun r63 => some (0, r63.2, 0, 0)))))) else oadd 1 25 (bnd (xup h41 (z) (.inl (0, 25, .inl (fun _ => 0)))) (fun h64 => obd (pf h64 (o) 1 1 (.ref (z))) (fun h68 => obd (gq h68 (o) 1 1) (fun w74 => obd (J7_fill_53178_f n 0 (w74) ((1 : Int32)) 0 0 h68) (fun r79 => some (0, r79.2, 0, 0)))))))))
set_option maxRecDepth 100000 in
set_option maxHeartbeats 8000000 in
theorem Zo_init_x {F : xF} {G : xG} {B mc ms : Nat} {o : Nat} (C : xC F G B cZo_init RZo 2 1 23 mc ms) (hr : (xFM F).sig.returnType = none) (hin : (xFM F).name = "<init>") {n : Nat} {x1 : Int32} {h : xH} {z cs ss : Nat} {R : Int32 × xH × Nat × Nat} {Zf : Nat} (hm : cs + R.2.2.1 ≤ mc) (hs : ss + R.2.2.2 ≤ ms) (hz : Zf = z + R.2.2.1) (hR : Zo_init_f n o x1 h z = some R) : X F G B (xZ F G B (kP none R.2.1 Zf) mc ms) 2 h z cs ss 0 [(0, .ref (o)), (1, .int (x1))] [] := by
  unfold Zo_init_f at hR
  refine X_aload_n C dZo_init_0 rfl ?_
  refine X_obj C obZo_3 ⟨by decide, Nat.le_of_ble_eq_true rfl⟩ dZo_init_1 ?_
  refine X_aload_n C dZo_init_4 rfl ?_
  refine X_iload_n C dZo_init_5 rfl ?_
  refine X_if_eq (tgt := 13) C dZo_init_6 (by decide) (fun c1 => ?_) (fun c1 => ?_)
  · rw [if_pos c1] at hR
    refine X_iconst (v := 4) C dZo_init_13 rfl ?_
    have hq := o_bind hR
    clear hR
    obtain ⟨h2, hh3, hR⟩ := hq
    obtain ⟨fs4, he5, hl6, e7⟩ := pf_e hh3
    refine X_putF (k := 0) C hin oZo fwZo_9 ⟨rfl, rfl⟩ he5 rfl rfl hl6 dZo_init_14 ?_
    rw [← e7]
    refine X_aload_n C dZo_init_17 rfl ?_
    refine X_iload_n C dZo_init_18 rfl ?_
    refine X_if_eq (tgt := 27) C dZo_init_19 (by decide) (fun c8 => ?_) (fun c8 => ?_)
    · rw [if_pos c8] at hR
      refine X_bipush (v := 16) C dZo_init_27 (by decide) ?_
      have hq := o_add hR
      clear hR
      obtain ⟨R12, e11, hR⟩ := hq
      subst e11
      dsimp only at hm hs hz ⊢
      refine X_newa (k := 0) (N := 16) (ty := .int) (a0 := (16, .inl (fun _ => 0))) C rfl na_int (fun _ => rfl) (by decide) (by decide) (by decide) (by omega) (by omega) dZo_init_29 (fun _ _ => ?_)
      have hq := b_bnd hR
      clear hR
      obtain ⟨h9, e10, hR⟩ := hq
      rw [← e10]
      have hq := o_bind hR
      clear hR
      obtain ⟨h13, hh14, hR⟩ := hq
      obtain ⟨fs15, he16, hl17, e18⟩ := pf_e hh14
      refine X_putF (k := 1) C hin oZo fwZo_15 ⟨rfl, rfl⟩ he16 rfl rfl hl17 dZo_init_31 ?_
      rw [← e18]
      refine X_aload_n C dZo_init_34 rfl ?_
      have hq := o_bind hR
      clear hR
      obtain ⟨w19, hx23, hR⟩ := hq
      obtain ⟨fs20, he21, hv22⟩ := gq_e hx23
      refine X_get (k := 1) C oZo fwZo_15 he21 hv22 dZo_init_35 ?_
      refine X_iconst (v := 1) C dZo_init_38 rfl ?_
      have hq := o_bind hR
      clear hR
      obtain ⟨r24, hr24, hR⟩ := hq
      refine X_callSk (As := [va_rf (w19), .int ((1 : Int32))]) (rest := []) C (J7_fill_53178_c hr24) wZo_19 ⟨by decide, by decide⟩ ⟨by omega, by omega⟩ rfl rfl (Nat.le_of_ble_eq_true rfl) dZo_init_39 ?_
      show X F G B _ 2 (r24.2) _ _ _ _ _ []
      have hR := Option.some.inj hR
      subst hR
      dsimp only at hm hs hz ⊢
      exact X_vret C hr (by omega) (by omega) dZo_init_42 ⟨rfl, rfl, by omega⟩
    · rw [if_neg c8] at hR
      refine X_bipush (v := 25) C dZo_init_22 (by decide) ?_
      refine X_goto (tgt := 29) C dZo_init_24 (by decide) ?_
      have hq := o_add hR
      clear hR
      obtain ⟨R28, e27, hR⟩ := hq
      subst e27
      dsimp only at hm hs hz ⊢
      refine X_newa (k := 0) (N := 25) (ty := .int) (a0 := (25, .inl (fun _ => 0))) C rfl na_int (fun _ => rfl) (by decide) (by decide) (by decide) (by omega) (by omega) dZo_init_29 (fun _ _ => ?_)
      have hq := b_bnd hR
      clear hR
      obtain ⟨h25, e26, hR⟩ := hq
      rw [← e26]
      have hq := o_bind hR
      clear hR
      obtain ⟨h29, hh30, hR⟩ := hq
      obtain ⟨fs31, he32, hl33, e34⟩ := pf_e hh30
      refine X_putF (k := 1) C hin oZo fwZo_15 ⟨rfl, rfl⟩ he32 rfl rfl hl33 dZo_init_31 ?_
      rw [← e34]
      refine X_aload_n C dZo_init_34 rfl ?_
      have hq := o_bind hR
      clear hR
      obtain ⟨w35, hx39, hR⟩ := hq
      obtain ⟨fs36, he37, hv38⟩ := gq_e hx39
      refine X_get (k := 1) C oZo fwZo_15 he37 hv38 dZo_init_35 ?_
      refine X_iconst (v := 1) C dZo_init_38 rfl ?_
      have hq := o_bind hR
      clear hR
      obtain ⟨r40, hr40, hR⟩ := hq
      refine X_callSk (As := [va_rf (w35), .int ((1 : Int32))]) (rest := []) C (J7_fill_53178_c hr40) wZo_19 ⟨by decide, by decide⟩ ⟨by omega, by omega⟩ rfl rfl (Nat.le_of_ble_eq_true rfl) dZo_init_39 ?_
      show X F G B _ 2 (r40.2) _ _ _ _ _ []
      have hR := Option.some.inj hR
      subst hR
      dsimp only at hm hs hz ⊢
      exact X_vret C hr (by omega) (by omega) dZo_init_42 ⟨rfl, rfl, by omega⟩
  · rw [if_neg c1] at hR
    refine X_iconst (v := 5) C dZo_init_9 rfl ?_
    refine X_goto (tgt := 14) C dZo_init_10 (by decide) ?_
    have hq := o_bind hR
    clear hR
    obtain ⟨h41, hh42, hR⟩ := hq
    obtain ⟨fs43, he44, hl45, e46⟩ := pf_e hh42
    refine X_putF (k := 0) C hin oZo fwZo_9 ⟨rfl, rfl⟩ he44 rfl rfl hl45 dZo_init_14 ?_
    rw [← e46]
    refine X_aload_n C dZo_init_17 rfl ?_
    refine X_iload_n C dZo_init_18 rfl ?_
    refine X_if_eq (tgt := 27) C dZo_init_19 (by decide) (fun c47 => ?_) (fun c47 => ?_)
    · rw [if_pos c47] at hR
      refine X_bipush (v := 16) C dZo_init_27 (by decide) ?_
      have hq := o_add hR
      clear hR
      obtain ⟨R51, e50, hR⟩ := hq
      subst e50
      dsimp only at hm hs hz ⊢
      refine X_newa (k := 0) (N := 16) (ty := .int) (a0 := (16, .inl (fun _ => 0))) C rfl na_int (fun _ => rfl) (by decide) (by decide) (by decide) (by omega) (by omega) dZo_init_29 (fun _ _ => ?_)
      have hq := b_bnd hR
      clear hR
      obtain ⟨h48, e49, hR⟩ := hq
      rw [← e49]
      have hq := o_bind hR
      clear hR
      obtain ⟨h52, hh53, hR⟩ := hq
      obtain ⟨fs54, he55, hl56, e57⟩ := pf_e hh53
      refine X_putF (k := 1) C hin oZo fwZo_15 ⟨rfl, rfl⟩ he55 rfl rfl hl56 dZo_init_31 ?_
      rw [← e57]
      refine X_aload_n C dZo_init_34 rfl ?_
      have hq := o_bind hR
      clear hR
      obtain ⟨w58, hx62, hR⟩ := hq
      obtain ⟨fs59, he60, hv61⟩ := gq_e hx62
      refine X_get (k := 1) C oZo fwZo_15 he60 hv61 dZo_init_35 ?_
      refine X_iconst (v := 1) C dZo_init_38 rfl ?_
      have hq := o_bind hR
      clear hR
      obtain ⟨r63, hr63, hR⟩ := hq
      refine X_callSk (As := [va_rf (w58), .int ((1 : Int32))]) (rest := []) C (J7_fill_53178_c hr63) wZo_19 ⟨by decide, by decide⟩ ⟨by omega, by omega⟩ rfl rfl (Nat.le_of_ble_eq_true rfl) dZo_init_39 ?_
      show X F G B _ 2 (r63.2) _ _ _ _ _ []
      have hR := Option.some.inj hR
      subst hR
      dsimp only at hm hs hz ⊢
      exact X_vret C hr (by omega) (by omega) dZo_init_42 ⟨rfl, rfl, by omega⟩
    · rw [if_neg c47] at hR
      refine X_bipush (v := 25) C dZo_init_22 (by decide) ?_
      refine X_goto (tgt := 29) C dZo_init_24 (by decide) ?_
      have hq := o_add hR
      clear hR
      obtain ⟨R67, e66, hR⟩ := hq
      subst e66
      dsimp only at hm hs hz ⊢
      refine X_newa (k := 0) (N := 25) (ty := .int) (a0 := (25, .inl (fun _ => 0))) C rfl na_int (fun _ => rfl) (by decide) (by decide) (by decide) (by omega) (by omega) dZo_init_29 (fun _ _ => ?_)
      have hq := b_bnd hR
      clear hR
      obtain ⟨h64, e65, hR⟩ := hq
      rw [← e65]
      have hq := o_bind hR
      clear hR
      obtain ⟨h68, hh69, hR⟩ := hq
      obtain ⟨fs70, he71, hl72, e73⟩ := pf_e hh69
      refine X_putF (k := 1) C hin oZo fwZo_15 ⟨rfl, rfl⟩ he71 rfl rfl hl72 dZo_init_31 ?_
      rw [← e73]
      refine X_aload_n C dZo_init_34 rfl ?_
      have hq := o_bind hR
      clear hR
      obtain ⟨w74, hx78, hR⟩ := hq
      obtain ⟨fs75, he76, hv77⟩ := gq_e hx78
      refine X_get (k := 1) C oZo fwZo_15 he76 hv77 dZo_init_35 ?_
      refine X_iconst (v := 1) C dZo_init_38 rfl ?_
      have hq := o_bind hR
      clear hR
      obtain ⟨r79, hr79, hR⟩ := hq
      refine X_callSk (As := [va_rf (w74), .int ((1 : Int32))]) (rest := []) C (J7_fill_53178_c hr79) wZo_19 ⟨by decide, by decide⟩ ⟨by omega, by omega⟩ rfl rfl (Nat.le_of_ble_eq_true rfl) dZo_init_39 ?_
      show X F G B _ 2 (r79.2) _ _ _ _ _ []
      have hR := Option.some.inj hR
      subst hR
      dsimp only at hm hs hz ⊢
      exact X_vret C hr (by omega) (by omega) dZo_init_42 ⟨rfl, rfl, by omega⟩
theorem Zo_init_c {l : Launch} {G : xG} {B sz : Nat} {o : Nat} {n : Nat} {x1 : Int32} {h : xH} {R : Int32 × xH × Nat × Nat} (hR : Zo_init_f n o x1 h sz = some R) : xCon l yZo_init cZo_init 2 none 1 23 R.2.2.1 R.2.2.2 G B [.ref (o), .int (x1)] h sz (kP none R.2.1 (sz + R.2.2.1)) := xCon.of (by decide) (by exact Nat.le_of_ble_eq_true rfl) (fun F e C hr hnm => X_sub (lv' := [(0, .ref (o)), (1, .int (x1))]) [0, 1] rfl (Zo_init_x C hr hnm (Nat.le_of_eq (Nat.zero_add _)) (Nat.le_of_eq (Nat.zero_add _)) rfl hR))
def St_init_f (n : Nat) (o : Nat) (x1 : Int32) (h : xH) (z : Nat) : Option (Int32 × xH × Nat × Nat) := oadd 1 3 (bnd (xup h (z) (.inl (0, 3, .inl (fun _ => 0)))) (fun h1 => obd (pf h1 (o) 2 1 (.ref (z))) (fun h5 => oadd 1 4 (bnd (xup h5 (z + 1) (.inl (0, 4, .inl (fun _ => 0)))) (fun h11 => obd (pf h11 (o) 2 2 (.ref (z + 1))) (fun h15 => oadd 1 3 (bnd (xup h15 (z + 1 + 1) (.inr (1, [.int 0, .null, .int 0]))) (fun h21 => obd (Zo_init_f n (z + 1 + 1) ((0 : Int32)) h21 (z + 1 + 1 + 1)) (fun r25 => oadd r25.2.2.1 r25.2.2.2 (obd (pf r25.2.1 (o) 2 3 (.ref (z + 1 + 1))) (fun h26 => oadd 1 3 (bnd (xup h26 (z + 1 + 1 + 1 + r25.2.2.1) (.inr (1, [.int 0, .null, .int 0]))) (fun h32 => obd (Zo_init_f n (z + 1 + 1 + 1 + r25.2.2.1) ((1 : Int32)) h32 (z + 1 + 1 + 1 + r25.2.2.1 + 1)) (fun r36 => oadd r36.2.2.1 r36.2.2.2 (obd (pf r36.2.1 (o) 2 4 (.ref (z + 1 + 1 + 1 + r25.2.2.1))) (fun h37 => obd (pf h37 (o) 2 0 (.int (x1))) (fun h43 => some (0, h43, 0, 0))))))))))))))))))
set_option maxRecDepth 100000 in
set_option maxHeartbeats 8000000 in
theorem St_init_x {F : xF} {G : xG} {B mc ms : Nat} {o : Nat} (C : xC F G B cSt_init RSt 2 2 44 mc ms) (hr : (xFM F).sig.returnType = none) (hin : (xFM F).name = "<init>") {n : Nat} {x1 : Int32} {h : xH} {z cs ss : Nat} {R : Int32 × xH × Nat × Nat} {Zf : Nat} (hm : cs + R.2.2.1 ≤ mc) (hs : ss + R.2.2.2 ≤ ms) (hz : Zf = z + R.2.2.1) (hR : St_init_f n o x1 h z = some R) : X F G B (xZ F G B (kP none R.2.1 Zf) mc ms) 2 h z cs ss 0 [(0, .ref (o)), (1, .int (x1))] [] := by
  unfold St_init_f at hR
  refine X_aload_n C dSt_init_0 rfl ?_
  refine X_obj C obSt_3 ⟨by decide, Nat.le_of_ble_eq_true rfl⟩ dSt_init_1 ?_
  refine X_aload_n C dSt_init_4 rfl ?_
  refine X_iconst (v := 3) C dSt_init_5 rfl ?_
  have hq := o_add hR
  clear hR
  obtain ⟨R4, e3, hR⟩ := hq
  subst e3
  dsimp only at hm hs hz ⊢
  refine X_newa (k := 0) (N := 3) (ty := .int) (a0 := (3, .inl (fun _ => 0))) C rfl na_int (fun _ => rfl) (by decide) (by decide) (by decide) (by omega) (by omega) dSt_init_6 (fun _ _ => ?_)
  have hq := b_bnd hR
  clear hR
  obtain ⟨h1, e2, hR⟩ := hq
  rw [← e2]
  have hq := o_bind hR
  clear hR
  obtain ⟨h5, hh6, hR⟩ := hq
  obtain ⟨fs7, he8, hl9, e10⟩ := pf_e hh6
  refine X_putF (k := 1) C hin oSt fwSt_9 ⟨rfl, rfl⟩ he8 rfl rfl hl9 dSt_init_8 ?_
  rw [← e10]
  refine X_aload_n C dSt_init_11 rfl ?_
  refine X_iconst (v := 4) C dSt_init_12 rfl ?_
  have hq := o_add hR
  clear hR
  obtain ⟨R14, e13, hR⟩ := hq
  subst e13
  dsimp only at hm hs hz ⊢
  refine X_newa (k := 0) (N := 4) (ty := .int) (a0 := (4, .inl (fun _ => 0))) C rfl na_int (fun _ => rfl) (by decide) (by decide) (by decide) (by omega) (by omega) dSt_init_13 (fun _ _ => ?_)
  have hq := b_bnd hR
  clear hR
  obtain ⟨h11, e12, hR⟩ := hq
  rw [← e12]
  have hq := o_bind hR
  clear hR
  obtain ⟨h15, hh16, hR⟩ := hq
  obtain ⟨fs17, he18, hl19, e20⟩ := pf_e hh16
  refine X_putF (k := 2) C hin oSt fwSt_15 ⟨rfl, rfl⟩ he18 rfl rfl hl19 dSt_init_15 ?_
  rw [← e20]
  refine X_aload_n C dSt_init_18 rfl ?_
  have hq := o_add hR
  clear hR
  obtain ⟨R24, e23, hR⟩ := hq
  subst e23
  dsimp only at hm hs hz ⊢
  refine X_new (fs := [.int 0, .null, .int 0]) C oZo nwSt_18 (fun j hj => by rcases (show j = 0 ∨ j = 1 ∨ j = 2 by omega) with rfl | rfl | rfl <;> rfl) (by omega) (by omega) dSt_init_19 (fun _ _ => ?_)
  have hq := b_bnd hR
  clear hR
  obtain ⟨h21, e22, hR⟩ := hq
  rw [← e22]
  refine X_dup C dSt_init_22 rfl ?_
  refine X_iconst (v := 0) C dSt_init_23 rfl ?_
  have hq := o_bind hR
  clear hR
  obtain ⟨r25, hr25, hR⟩ := hq
  have hq := o_add hR
  clear hR
  obtain ⟨R52, e51, hR⟩ := hq
  subst e51
  dsimp only at hm hs hz ⊢
  refine X_callIa (As := [.int ((0 : Int32))]) (rest := [.ref (z + 1 + 1), .ref (o)]) C (Zo_init_c hr25) wSt_20 ⟨by decide, by decide⟩ ⟨by omega, by omega⟩ rfl rfl (Nat.le_of_ble_eq_true rfl) dSt_init_24 ?_
  show X F G B _ 2 (r25.2.1) _ _ _ _ _ [.ref (z + 1 + 1), .ref (o)]
  have hq := o_bind hR
  clear hR
  obtain ⟨h26, hh27, hR⟩ := hq
  obtain ⟨fs28, he29, hl30, e31⟩ := pf_e hh27
  refine X_putF (k := 3) C hin oSt fwSt_23 ⟨rfl, rfl⟩ he29 rfl rfl hl30 dSt_init_27 ?_
  rw [← e31]
  refine X_aload_n C dSt_init_30 rfl ?_
  have hq := o_add hR
  clear hR
  obtain ⟨R35, e34, hR⟩ := hq
  subst e34
  dsimp only at hm hs hz ⊢
  refine X_new (fs := [.int 0, .null, .int 0]) C oZo nwSt_18 (fun j hj => by rcases (show j = 0 ∨ j = 1 ∨ j = 2 by omega) with rfl | rfl | rfl <;> rfl) (by omega) (by omega) dSt_init_31 (fun _ _ => ?_)
  have hq := b_bnd hR
  clear hR
  obtain ⟨h32, e33, hR⟩ := hq
  rw [← e33]
  refine X_dup C dSt_init_34 rfl ?_
  refine X_iconst (v := 1) C dSt_init_35 rfl ?_
  have hq := o_bind hR
  clear hR
  obtain ⟨r36, hr36, hR⟩ := hq
  have hq := o_add hR
  clear hR
  obtain ⟨R50, e49, hR⟩ := hq
  subst e49
  dsimp only at hm hs hz ⊢
  refine X_callIa (As := [.int ((1 : Int32))]) (rest := [.ref (z + 1 + 1 + 1 + r25.2.2.1), .ref (o)]) C (Zo_init_c hr36) wSt_20 ⟨by decide, by decide⟩ ⟨by omega, by omega⟩ rfl rfl (Nat.le_of_ble_eq_true rfl) dSt_init_36 ?_
  show X F G B _ 2 (r36.2.1) _ _ _ _ _ [.ref (z + 1 + 1 + 1 + r25.2.2.1), .ref (o)]
  have hq := o_bind hR
  clear hR
  obtain ⟨h37, hh38, hR⟩ := hq
  obtain ⟨fs39, he40, hl41, e42⟩ := pf_e hh38
  refine X_putF (k := 4) C hin oSt fwSt_27 ⟨rfl, rfl⟩ he40 rfl rfl hl41 dSt_init_39 ?_
  rw [← e42]
  refine X_aload_n C dSt_init_42 rfl ?_
  refine X_iload_n C dSt_init_43 rfl ?_
  have hq := o_bind hR
  clear hR
  obtain ⟨h43, hh44, hR⟩ := hq
  obtain ⟨fs45, he46, hl47, e48⟩ := pf_e hh44
  refine X_putF (k := 0) C hin oSt fwSt_30 ⟨rfl, rfl⟩ he46 rfl rfl hl47 dSt_init_44 ?_
  rw [← e48]
  have hR := Option.some.inj hR
  subst hR
  dsimp only at hm hs hz ⊢
  exact X_vret C hr (by omega) (by omega) dSt_init_47 ⟨rfl, rfl, by omega⟩
theorem St_init_c {l : Launch} {G : xG} {B sz : Nat} {o : Nat} {n : Nat} {x1 : Int32} {h : xH} {R : Int32 × xH × Nat × Nat} (hR : St_init_f n o x1 h sz = some R) : xCon l ySt_init cSt_init 2 none 2 44 R.2.2.1 R.2.2.2 G B [.ref (o), .int (x1)] h sz (kP none R.2.1 (sz + R.2.2.1)) := xCon.of (by decide) (by exact Nat.le_of_ble_eq_true rfl) (fun F e C hr hnm => X_sub (lv' := [(0, .ref (o)), (1, .int (x1))]) [0, 1] rfl (St_init_x C hr hnm (Nat.le_of_eq (Nat.zero_add _)) (Nat.le_of_eq (Nat.zero_add _)) rfl hR))
def St_fits_f (n : Nat) (o : Nat) (x1 : Int32) (x2 : Int32) (h : xH) : Option (Int32 × xH) := (if x2 = ((-1) : Int32) then some ((1 : Int32), h) else (if x1 < 0 then some ((0 : Int32), h) else obd (gq h (o) 2 1) (fun w3 => obd w3 (fun a8 => obd (al h (a8) 0) (fun u9 => (if u9 ≤ x1 then some ((0 : Int32), h) else obd (gq h (o) 2 1) (fun w15 => obd w15 (fun a20 => obd (ai h (a20) 0 (x1)) (fun u21 => (if u21 = x2 then some ((1 : Int32), h) else some ((0 : Int32), h)))))))))))
set_option maxRecDepth 100000 in
set_option maxHeartbeats 8000000 in
theorem St_fits_x {F : xF} {G : xG} {B sz : Nat} {o : Nat} (C : xC F G B cSt_fits RSt 3 0 0 0 0) (hr : (xFM F).sig.returnType = (some .boolean)) {n : Nat} {x1 : Int32} {x2 : Int32} {h : xH} {R : Int32 × xH} (hR : St_fits_f n o x1 x2 h = some R) : X F G B (xZ F G B (kP (some (.int R.1)) R.2 sz) 0 0) 3 h sz 0 0 0 [(0, .ref (o)), (1, .int (x1)), (2, .int (x2))] [] := by
  unfold St_fits_f at hR
  refine X_iload_n C dSt_fits_0 rfl ?_
  refine X_iconst (v := (-1)) C dSt_fits_1 rfl ?_
  refine X_icmp_eq (tgt := 28) C dSt_fits_2 (by decide) (fun c1 => ?_) (fun c1 => ?_)
  · rw [if_pos c1] at hR
    refine X_iconst (v := 1) C dSt_fits_28 rfl ?_
    refine X_goto (tgt := 33) C dSt_fits_29 (by decide) ?_
    rw [← Option.some.inj hR]
    exact X_zret C hr rfl (Nat.le_refl _) (Nat.le_refl _) dSt_fits_33 ⟨rfl, rfl, rfl⟩
  · rw [if_neg c1] at hR
    refine X_iload_n C dSt_fits_5 rfl ?_
    refine X_if_lt (tgt := 32) C dSt_fits_6 (by decide) (fun c2 => ?_) (fun c2 => ?_)
    · rw [if_pos c2] at hR
      refine X_iconst (v := 0) C dSt_fits_32 rfl ?_
      rw [← Option.some.inj hR]
      exact X_zret C hr rfl (Nat.le_refl _) (Nat.le_refl _) dSt_fits_33 ⟨rfl, rfl, rfl⟩
    · rw [if_neg c2] at hR
      refine X_iload_n C dSt_fits_9 rfl ?_
      refine X_aload_n C dSt_fits_10 rfl ?_
      have hq := o_bind hR
      clear hR
      obtain ⟨w3, hx7, hR⟩ := hq
      obtain ⟨fs4, he5, hv6⟩ := gq_e hx7
      refine X_get (k := 1) C oSt fwSt_9 he5 hv6 dSt_fits_11 ?_
      have hq := o_bind hR
      clear hR
      obtain ⟨a8, rfl, hR⟩ := hq
      have hq := o_bind hR
      clear hR
      obtain ⟨u9, hx10, hR⟩ := hq
      obtain ⟨v11, he12, e13⟩ := al_e hx10
      refine X_alen C rfl he12 e13 dSt_fits_14 ?_
      refine X_icmp_ge (tgt := 32) C dSt_fits_15 (by decide) (fun c14 => ?_) (fun c14 => ?_)
      · rw [if_pos c14] at hR
        refine X_iconst (v := 0) C dSt_fits_32 rfl ?_
        rw [← Option.some.inj hR]
        exact X_zret C hr rfl (Nat.le_refl _) (Nat.le_refl _) dSt_fits_33 ⟨rfl, rfl, rfl⟩
      · rw [if_neg c14] at hR
        refine X_aload_n C dSt_fits_18 rfl ?_
        have hq := o_bind hR
        clear hR
        obtain ⟨w15, hx19, hR⟩ := hq
        obtain ⟨fs16, he17, hv18⟩ := gq_e hx19
        refine X_get (k := 1) C oSt fwSt_9 he17 hv18 dSt_fits_19 ?_
        refine X_iload_n C dSt_fits_22 rfl ?_
        have hq := o_bind hR
        clear hR
        obtain ⟨a20, rfl, hR⟩ := hq
        have hq := o_bind hR
        clear hR
        obtain ⟨u21, hx22, hR⟩ := hq
        obtain ⟨n23, f24, he25, hi26, e27⟩ := ai_e hx22
        refine X_iald C rfl he25 hi26 dSt_fits_23 ?_
        rw [← e27]
        refine X_iload_n C dSt_fits_24 rfl ?_
        refine X_icmp_ne (tgt := 32) C dSt_fits_25 (by decide) (fun c28 => ?_) (fun c28 => ?_)
        · rw [if_neg c28] at hR
          refine X_iconst (v := 0) C dSt_fits_32 rfl ?_
          rw [← Option.some.inj hR]
          exact X_zret C hr rfl (Nat.le_refl _) (Nat.le_refl _) dSt_fits_33 ⟨rfl, rfl, rfl⟩
        · rw [if_pos c28] at hR
          refine X_iconst (v := 1) C dSt_fits_28 rfl ?_
          refine X_goto (tgt := 33) C dSt_fits_29 (by decide) ?_
          rw [← Option.some.inj hR]
          exact X_zret C hr rfl (Nat.le_refl _) (Nat.le_refl _) dSt_fits_33 ⟨rfl, rfl, rfl⟩
theorem St_fits_c {l : Launch} {G : xG} {B sz : Nat} {o : Nat} {n : Nat} {x1 : Int32} {x2 : Int32} {h : xH} {R : Int32 × xH} (hR : St_fits_f n o x1 x2 h = some R) : xCon l ySt_fits cSt_fits 3 (some .boolean) 0 0 0 0 G B [.ref (o), .int (x1), .int (x2)] h sz (kP (some (.int R.1)) R.2 sz) := xCon.of (by decide) (by exact Nat.le_of_ble_eq_true rfl) (fun F e C hr hnm => X_sub (lv' := [(0, .ref (o)), (1, .int (x1)), (2, .int (x2))]) [0, 1, 2] rfl (St_fits_x C hr hR))
def St_standsAt_t0 (f : Nat → Option Nat → Int32 → xH → Option (Int32 × xH)) (n : Nat) (o : Nat) (y1 : Option Nat) (x2 : Int32) (h : xH) : Option (Int32 × xH) := f 2 (y1) ((0 : Int32)) h
def St_standsAt_t2 (f : Nat → Option Nat → Int32 → xH → Option (Int32 × xH)) (n : Nat) (o : Nat) (y1 : Option Nat) (x2 : Int32) (h : xH) : Option (Int32 × xH) := obd (gq h (o) 2 1) (fun w1 => obd w1 (fun a6 => obd (al h (a6) 0) (fun u7 => (if u7 ≤ x2 then some ((1 : Int32), h) else obd y1 (fun a13 => obd (al h (a13) 0) (fun u14 => (if u14 ≤ x2 then some ((0 : Int32), h) else obd (gq h (o) 2 1) (fun w20 => obd w20 (fun a25 => obd (ai h (a25) 0 (x2)) (fun u26 => obd (ai h (a13) 0 (x2)) (fun u33 => (if u26 = u33 then f 2 (some (a13)) (x2 + 1) h else some ((0 : Int32), h)))))))))))))
def St_standsAt_f : Nat → Nat → Nat → Option Nat → Int32 → xH → Option (Int32 × xH)
  | 0 => fun _ _ _ _ _ => none
  | n + 1 => fun p o y1 x2 h => if p = 0 then St_standsAt_t0 (fun p y1 x2 h => St_standsAt_f n p o y1 x2 h) n o y1 x2 h else if p = 2 then St_standsAt_t2 (fun p y1 x2 h => St_standsAt_f n p o y1 x2 h) n o y1 x2 h else none
theorem St_standsAt_e0 (n : Nat) (o : Nat) (y1 : Option Nat) (x2 : Int32) (h : xH) : St_standsAt_f (n + 1) 0 o y1 x2 h = St_standsAt_t0 (fun p y1 x2 h => St_standsAt_f n p o y1 x2 h) n o y1 x2 h := by
  show (if 0 = 0 then St_standsAt_t0 (fun p y1 x2 h => St_standsAt_f n p o y1 x2 h) n o y1 x2 h else if 0 = 2 then St_standsAt_t2 (fun p y1 x2 h => St_standsAt_f n p o y1 x2 h) n o y1 x2 h else none) = _
  rw [if_pos rfl]
theorem St_standsAt_e2 (n : Nat) (o : Nat) (y1 : Option Nat) (x2 : Int32) (h : xH) : St_standsAt_f (n + 1) 2 o y1 x2 h = St_standsAt_t2 (fun p y1 x2 h => St_standsAt_f n p o y1 x2 h) n o y1 x2 h := by
  show (if 2 = 0 then St_standsAt_t0 (fun p y1 x2 h => St_standsAt_f n p o y1 x2 h) n o y1 x2 h else if 2 = 2 then St_standsAt_t2 (fun p y1 x2 h => St_standsAt_f n p o y1 x2 h) n o y1 x2 h else none) = _
  rw [if_neg (by decide), if_pos rfl]
set_option maxRecDepth 100000 in
set_option maxHeartbeats 8000000 in
theorem St_standsAt_x {F : xF} {G : xG} {B sz : Nat} {o : Nat} (C : xC F G B cSt_standsAt RSt 3 0 0 0 0) (hr : (xFM F).sig.returnType = (some .boolean)) : ∀ (n : Nat) (y1 : Option Nat) (x2 : Int32) (h : xH) (R : Int32 × xH), (St_standsAt_f n 0 o y1 x2 h = some R → X F G B (xZ F G B (kP (some (.int R.1)) R.2 sz) 0 0) 3 h sz 0 0 0 [(0, .ref (o)), (1, va_rf (y1))] []) ∧ (St_standsAt_f n 2 o y1 x2 h = some R → X F G B (xZ F G B (kP (some (.int R.1)) R.2 sz) 0 0) 3 h sz 0 0 2 [(0, .ref (o)), (1, va_rf (y1)), (2, .int (x2))] []) := by
  intro n
  induction n with
  | zero => exact fun _ _ _ _ => ⟨(fun hR => nomatch (show (none : Option _) = some _ from hR)), (fun hR => nomatch (show (none : Option _) = some _ from hR))⟩
  | succ n ih =>
    intro y1 x2 h R
    refine ⟨fun hR => ?_, fun hR => ?_⟩
    · rw [St_standsAt_e0] at hR
      unfold St_standsAt_t0 at hR
      refine X_iconst (v := 0) C dSt_standsAt_0 rfl ?_
      refine X_istore_n (lv' := [(2, .int ((0 : Int32))), (0, .ref (o)), (1, va_rf (y1))]) C dSt_standsAt_1 (by decide) (by simp [rf_cat, cat_i, cat_r, cat_l, rf_n, rf_s] <;> decide) ?_
      refine X_sub (lv' := [(0, .ref (o)), (1, va_rf ((y1))), (2, .int ((0 : Int32)))]) [1, 2, 0] rfl ?_
      exact (ih (y1) ((0 : Int32)) _ _).2 hR
    · rw [St_standsAt_e2] at hR
      unfold St_standsAt_t2 at hR
      refine X_iload_n C dSt_standsAt_2 rfl ?_
      refine X_aload_n C dSt_standsAt_3 rfl ?_
      have hq := o_bind hR
      clear hR
      obtain ⟨w1, hx5, hR⟩ := hq
      obtain ⟨fs2, he3, hv4⟩ := gq_e hx5
      refine X_get (k := 1) C oSt fwSt_9 he3 hv4 dSt_standsAt_4 ?_
      have hq := o_bind hR
      clear hR
      obtain ⟨a6, rfl, hR⟩ := hq
      have hq := o_bind hR
      clear hR
      obtain ⟨u7, hx8, hR⟩ := hq
      obtain ⟨v9, he10, e11⟩ := al_e hx8
      refine X_alen C rfl he10 e11 dSt_standsAt_7 ?_
      refine X_icmp_ge (tgt := 37) C dSt_standsAt_8 (by decide) (fun c12 => ?_) (fun c12 => ?_)
      · rw [if_pos c12] at hR
        refine X_iconst (v := 1) C dSt_standsAt_37 rfl ?_
        rw [← Option.some.inj hR]
        exact X_zret C hr rfl (Nat.le_refl _) (Nat.le_refl _) dSt_standsAt_38 ⟨rfl, rfl, rfl⟩
      · rw [if_neg c12] at hR
        refine X_iload_n C dSt_standsAt_11 rfl ?_
        refine X_aload_nq C dSt_standsAt_12 rfl ?_
        have hq := o_bind hR
        clear hR
        obtain ⟨a13, rfl, hR⟩ := hq
        have hq := o_bind hR
        clear hR
        obtain ⟨u14, hx15, hR⟩ := hq
        obtain ⟨v16, he17, e18⟩ := al_e hx15
        refine X_alen C rfl he17 e18 dSt_standsAt_13 ?_
        refine X_icmp_ge (tgt := 29) C dSt_standsAt_14 (by decide) (fun c19 => ?_) (fun c19 => ?_)
        · rw [if_pos c19] at hR
          refine X_iconst (v := 0) C dSt_standsAt_29 rfl ?_
          rw [← Option.some.inj hR]
          exact X_zret C hr rfl (Nat.le_refl _) (Nat.le_refl _) dSt_standsAt_30 ⟨rfl, rfl, rfl⟩
        · rw [if_neg c19] at hR
          refine X_aload_n C dSt_standsAt_17 rfl ?_
          have hq := o_bind hR
          clear hR
          obtain ⟨w20, hx24, hR⟩ := hq
          obtain ⟨fs21, he22, hv23⟩ := gq_e hx24
          refine X_get (k := 1) C oSt fwSt_9 he22 hv23 dSt_standsAt_18 ?_
          refine X_iload_n C dSt_standsAt_21 rfl ?_
          have hq := o_bind hR
          clear hR
          obtain ⟨a25, rfl, hR⟩ := hq
          have hq := o_bind hR
          clear hR
          obtain ⟨u26, hx27, hR⟩ := hq
          obtain ⟨n28, f29, he30, hi31, e32⟩ := ai_e hx27
          refine X_iald C rfl he30 hi31 dSt_standsAt_22 ?_
          rw [← e32]
          refine X_aload_n C dSt_standsAt_23 rfl ?_
          refine X_iload_n C dSt_standsAt_24 rfl ?_
          have hq := o_bind hR
          clear hR
          obtain ⟨u33, hx34, hR⟩ := hq
          obtain ⟨n35, f36, he37, hi38, e39⟩ := ai_e hx34
          refine X_iald C rfl he37 hi38 dSt_standsAt_25 ?_
          rw [← e39]
          refine X_icmp_eq (tgt := 31) C dSt_standsAt_26 (by decide) (fun c40 => ?_) (fun c40 => ?_)
          · rw [if_pos c40] at hR
            refine X_iinc (v := x2 + 1) (lv' := [(2, .int (x2 + 1)), (0, .ref (o)), (1, .ref (a13))]) C dSt_standsAt_31 rfl rfl (by decide) rfl ?_
            refine X_goto (tgt := 2) C dSt_standsAt_34 (by decide) ?_
            refine X_sub (lv' := [(0, .ref (o)), (1, va_rf ((some (a13)))), (2, .int (x2 + 1))]) [1, 2, 0] rfl ?_
            exact (ih (some (a13)) (x2 + 1) _ _).2 hR
          · rw [if_neg c40] at hR
            refine X_iconst (v := 0) C dSt_standsAt_29 rfl ?_
            rw [← Option.some.inj hR]
            exact X_zret C hr rfl (Nat.le_refl _) (Nat.le_refl _) dSt_standsAt_30 ⟨rfl, rfl, rfl⟩
theorem St_standsAt_c {l : Launch} {G : xG} {B sz : Nat} {o : Nat} {n : Nat} {y1 : Option Nat} {h : xH} {R : Int32 × xH} (hR : St_standsAt_f n 0 o y1 0 h = some R) : xCon l ySt_standsAt cSt_standsAt 3 (some .boolean) 0 0 0 0 G B [.ref (o), va_rf (y1)] h sz (kP (some (.int R.1)) R.2 sz) := xCon.of (by decide) (by simp [lg_sl, rf_cat, cat_i, cat_r, cat_l]) (fun F e C hr hnm => X_sub (lv' := [(0, .ref (o)), (1, va_rf (y1))]) [0, 1] (by simp [lv_args, lv_pick, rf_cat, cat_i, cat_r, cat_l]) ((St_standsAt_x C hr n y1 0 h R).1 hR))
def St_comeFrom_f (n : Nat) (o : Nat) (y1 : Option Nat) (h : xH) : Option (Int32 × xH) := oel (y1) (obd (pf h (o) 2 5 (.int (((-2) : Int32)))) (fun h3 => obd (pf h3 (o) 2 9 (.int ((0 : Int32)))) (fun h9 => obd (pf h9 (o) 2 6 (.int ((0 : Int32)))) (fun h15 => obd (pf h15 (o) 2 7 (.int ((0 : Int32)))) (fun h21 => obd (pf h21 (o) 2 8 (.int ((0 : Int32)))) (fun h27 => some (0, h27))))))) (fun a1 => obd (gi h (a1) 2 0) (fun u33 => obd (pf h (o) 2 5 (.int (u33))) (fun h38 => obd (gi h38 (a1) 2 9) (fun u44 => obd (pf h38 (o) 2 9 (.int ((u44) + ((1 : Int32))))) (fun h49 => obd (pf h49 (o) 2 6 (.int ((0 : Int32)))) (fun h55 => obd (pf h55 (o) 2 7 (.int ((0 : Int32)))) (fun h61 => obd (pf h61 (o) 2 8 (.int ((0 : Int32)))) (fun h67 => some (0, h67)))))))))
set_option maxRecDepth 100000 in
set_option maxHeartbeats 8000000 in
theorem St_comeFrom_x {F : xF} {G : xG} {B sz : Nat} {o : Nat} (C : xC F G B cSt_comeFrom RSt 2 0 0 0 0) (hr : (xFM F).sig.returnType = none) {n : Nat} {y1 : Option Nat} {h : xH} {R : Int32 × xH} (hR : St_comeFrom_f n o y1 h = some R) : X F G B (xZ F G B (kP none R.2 sz) 0 0) 2 h sz 0 0 0 [(0, .ref (o)), (1, va_rf (y1))] [] := by
  unfold St_comeFrom_f at hR
  refine X_aload_n C dSt_comeFrom_0 rfl ?_
  refine X_aload_nq C dSt_comeFrom_1 rfl ?_
  refine X_ifnonnullq (tgt := 10) C dSt_comeFrom_2 (by decide) (fun a1 e2 => ?_) (fun e2 => ?_)
  · subst e2
    rw [oel_s] at hR
    refine X_aload_n C dSt_comeFrom_10 rfl ?_
    have hq := o_bind hR
    clear hR
    obtain ⟨u33, hx37, hR⟩ := hq
    obtain ⟨fs34, he35, hv36⟩ := gi_e hx37
    refine X_get (k := 0) C oSt fwSt_30 he35 hv36 dSt_comeFrom_11 ?_
    have hq := o_bind hR
    clear hR
    obtain ⟨h38, hh39, hR⟩ := hq
    obtain ⟨fs40, he41, hl42, e43⟩ := pf_e hh39
    refine X_put (k := 5) C oSt fwSt_34 rfl he41 rfl rfl hl42 dSt_comeFrom_14 ?_
    rw [← e43]
    refine X_aload_n C dSt_comeFrom_17 rfl ?_
    refine X_aload_n C dSt_comeFrom_18 rfl ?_
    refine X_ifnonnull (tgt := 26) C dSt_comeFrom_19 (by decide) ?_
    refine X_aload_n C dSt_comeFrom_26 rfl ?_
    have hq := o_bind hR
    clear hR
    obtain ⟨u44, hx48, hR⟩ := hq
    obtain ⟨fs45, he46, hv47⟩ := gi_e hx48
    refine X_get (k := 9) C oSt fwSt_37 he46 hv47 dSt_comeFrom_27 ?_
    refine X_iconst (v := 1) C dSt_comeFrom_30 rfl ?_
    refine X_iadd C dSt_comeFrom_31 ?_
    have hq := o_bind hR
    clear hR
    obtain ⟨h49, hh50, hR⟩ := hq
    obtain ⟨fs51, he52, hl53, e54⟩ := pf_e hh50
    refine X_put (k := 9) C oSt fwSt_37 rfl he52 rfl rfl hl53 dSt_comeFrom_32 ?_
    rw [← e54]
    refine X_aload_n C dSt_comeFrom_35 rfl ?_
    refine X_iconst (v := 0) C dSt_comeFrom_36 rfl ?_
    have hq := o_bind hR
    clear hR
    obtain ⟨h55, hh56, hR⟩ := hq
    obtain ⟨fs57, he58, hl59, e60⟩ := pf_e hh56
    refine X_put (k := 6) C oSt fwSt_40 rfl he58 rfl rfl hl59 dSt_comeFrom_37 ?_
    rw [← e60]
    refine X_aload_n C dSt_comeFrom_40 rfl ?_
    refine X_iconst (v := 0) C dSt_comeFrom_41 rfl ?_
    have hq := o_bind hR
    clear hR
    obtain ⟨h61, hh62, hR⟩ := hq
    obtain ⟨fs63, he64, hl65, e66⟩ := pf_e hh62
    refine X_put (k := 7) C oSt fwSt_43 rfl he64 rfl rfl hl65 dSt_comeFrom_42 ?_
    rw [← e66]
    refine X_aload_n C dSt_comeFrom_45 rfl ?_
    refine X_iconst (v := 0) C dSt_comeFrom_46 rfl ?_
    have hq := o_bind hR
    clear hR
    obtain ⟨h67, hh68, hR⟩ := hq
    obtain ⟨fs69, he70, hl71, e72⟩ := pf_e hh68
    refine X_put (k := 8) C oSt fwSt_46 rfl he70 rfl rfl hl71 dSt_comeFrom_47 ?_
    rw [← e72]
    rw [← Option.some.inj hR]
    exact X_vret C hr (Nat.le_refl _) (Nat.le_refl _) dSt_comeFrom_50 ⟨rfl, rfl, rfl⟩
  · subst e2
    rw [oel_n] at hR
    refine X_bipush (v := (-2)) C dSt_comeFrom_5 (by decide) ?_
    refine X_goto (tgt := 14) C dSt_comeFrom_7 (by decide) ?_
    have hq := o_bind hR
    clear hR
    obtain ⟨h3, hh4, hR⟩ := hq
    obtain ⟨fs5, he6, hl7, e8⟩ := pf_e hh4
    refine X_put (k := 5) C oSt fwSt_34 rfl he6 rfl rfl hl7 dSt_comeFrom_14 ?_
    rw [← e8]
    refine X_aload_n C dSt_comeFrom_17 rfl ?_
    refine X_aload_nN C dSt_comeFrom_18 rfl ?_
    refine X_ifnonnullN C dSt_comeFrom_19 ?_
    refine X_iconst (v := 0) C dSt_comeFrom_22 rfl ?_
    refine X_goto (tgt := 32) C dSt_comeFrom_23 (by decide) ?_
    have hq := o_bind hR
    clear hR
    obtain ⟨h9, hh10, hR⟩ := hq
    obtain ⟨fs11, he12, hl13, e14⟩ := pf_e hh10
    refine X_put (k := 9) C oSt fwSt_37 rfl he12 rfl rfl hl13 dSt_comeFrom_32 ?_
    rw [← e14]
    refine X_aload_n C dSt_comeFrom_35 rfl ?_
    refine X_iconst (v := 0) C dSt_comeFrom_36 rfl ?_
    have hq := o_bind hR
    clear hR
    obtain ⟨h15, hh16, hR⟩ := hq
    obtain ⟨fs17, he18, hl19, e20⟩ := pf_e hh16
    refine X_put (k := 6) C oSt fwSt_40 rfl he18 rfl rfl hl19 dSt_comeFrom_37 ?_
    rw [← e20]
    refine X_aload_n C dSt_comeFrom_40 rfl ?_
    refine X_iconst (v := 0) C dSt_comeFrom_41 rfl ?_
    have hq := o_bind hR
    clear hR
    obtain ⟨h21, hh22, hR⟩ := hq
    obtain ⟨fs23, he24, hl25, e26⟩ := pf_e hh22
    refine X_put (k := 7) C oSt fwSt_43 rfl he24 rfl rfl hl25 dSt_comeFrom_42 ?_
    rw [← e26]
    refine X_aload_n C dSt_comeFrom_45 rfl ?_
    refine X_iconst (v := 0) C dSt_comeFrom_46 rfl ?_
    have hq := o_bind hR
    clear hR
    obtain ⟨h27, hh28, hR⟩ := hq
    obtain ⟨fs29, he30, hl31, e32⟩ := pf_e hh28
    refine X_put (k := 8) C oSt fwSt_46 rfl he30 rfl rfl hl31 dSt_comeFrom_47 ?_
    rw [← e32]
    rw [← Option.some.inj hR]
    exact X_vret C hr (Nat.le_refl _) (Nat.le_refl _) dSt_comeFrom_50 ⟨rfl, rfl, rfl⟩
theorem St_comeFrom_c {l : Launch} {G : xG} {B sz : Nat} {o : Nat} {n : Nat} {y1 : Option Nat} {h : xH} {R : Int32 × xH} (hR : St_comeFrom_f n o y1 h = some R) : xCon l ySt_comeFrom cSt_comeFrom 2 none 0 0 0 0 G B [.ref (o), va_rf (y1)] h sz (kP none R.2 sz) := xCon.of (by decide) (by simp [lg_sl, rf_cat, cat_i, cat_r, cat_l]) (fun F e C hr hnm => X_sub (lv' := [(0, .ref (o)), (1, va_rf (y1))]) [0, 1] (by simp [lv_args, lv_pick, rf_cat, cat_i, cat_r, cat_l]) (St_comeFrom_x C hr hR))
def Wa_init_f (n : Nat) (o : Nat) (x1 : Int32) (x2 : Int32) (x3 : Int32) (x4 : Int32) (h : xH) (z : Nat) : Option (Int32 × xH × Nat × Nat) := obd (He_init_f n (o) h) (fun r1 => oadd 1 3 (bnd (xup r1.2 (z) (.inl (0, 3, .inl (fun _ => 0)))) (fun h2 => obd (pf h2 (o) 7 4 (.ref (z))) (fun h6 => oadd 1 3 (bnd (xup h6 (z + 1) (.inl (0, 3, .inl (fun _ => 0)))) (fun h12 => obd (pf h12 (o) 7 5 (.ref (z + 1))) (fun h16 => obd (pf h16 (o) 7 0 (.int (x1))) (fun h22 => obd (pf h22 (o) 7 1 (.int (x2))) (fun h28 => obd (pf h28 (o) 7 2 (.int (x3))) (fun h34 => obd (pf h34 (o) 7 3 (.int (x4))) (fun h40 => some (0, h40, 0, 0))))))))))))
set_option maxRecDepth 100000 in
set_option maxHeartbeats 8000000 in
theorem Wa_init_x {F : xF} {G : xG} {B mc ms : Nat} {o : Nat} (C : xC F G B cWa_init RWa 5 2 41 mc ms) (hr : (xFM F).sig.returnType = none) (hin : (xFM F).name = "<init>") {n : Nat} {x1 : Int32} {x2 : Int32} {x3 : Int32} {x4 : Int32} {h : xH} {z cs ss : Nat} {R : Int32 × xH × Nat × Nat} {Zf : Nat} (hm : cs + R.2.2.1 ≤ mc) (hs : ss + R.2.2.2 ≤ ms) (hz : Zf = z + R.2.2.1) (hR : Wa_init_f n o x1 x2 x3 x4 h z = some R) : X F G B (xZ F G B (kP none R.2.1 Zf) mc ms) 5 h z cs ss 0 [(0, .ref (o)), (1, .int (x1)), (2, .int (x2)), (3, .int (x3)), (4, .int (x4))] [] := by
  unfold Wa_init_f at hR
  refine X_aload_n C dWa_init_0 rfl ?_
  have hq := o_bind hR
  clear hR
  obtain ⟨r1, hr1, hR⟩ := hq
  refine X_callIk (As := []) (rest := []) C (He_init_c hr1) wWa_3 ⟨by decide, by decide⟩ ⟨by omega, by omega⟩ rfl rfl (Nat.le_of_ble_eq_true rfl) dWa_init_1 ?_
  show X F G B _ 5 (r1.2) _ _ _ _ _ []
  refine X_aload_n C dWa_init_4 rfl ?_
  refine X_iconst (v := 3) C dWa_init_5 rfl ?_
  have hq := o_add hR
  clear hR
  obtain ⟨R5, e4, hR⟩ := hq
  subst e4
  dsimp only at hm hs hz ⊢
  refine X_newa (k := 0) (N := 3) (ty := .int) (a0 := (3, .inl (fun _ => 0))) C rfl na_int (fun _ => rfl) (by decide) (by decide) (by decide) (by omega) (by omega) dWa_init_6 (fun _ _ => ?_)
  have hq := b_bnd hR
  clear hR
  obtain ⟨h2, e3, hR⟩ := hq
  rw [← e3]
  have hq := o_bind hR
  clear hR
  obtain ⟨h6, hh7, hR⟩ := hq
  obtain ⟨fs8, he9, hl10, e11⟩ := pf_e hh7
  refine X_putF (k := 4) C hin oWa fwWa_9 ⟨rfl, rfl⟩ he9 rfl rfl hl10 dWa_init_8 ?_
  rw [← e11]
  refine X_aload_n C dWa_init_11 rfl ?_
  refine X_iconst (v := 3) C dWa_init_12 rfl ?_
  have hq := o_add hR
  clear hR
  obtain ⟨R15, e14, hR⟩ := hq
  subst e14
  dsimp only at hm hs hz ⊢
  refine X_newa (k := 0) (N := 3) (ty := .int) (a0 := (3, .inl (fun _ => 0))) C rfl na_int (fun _ => rfl) (by decide) (by decide) (by decide) (by omega) (by omega) dWa_init_13 (fun _ _ => ?_)
  have hq := b_bnd hR
  clear hR
  obtain ⟨h12, e13, hR⟩ := hq
  rw [← e13]
  have hq := o_bind hR
  clear hR
  obtain ⟨h16, hh17, hR⟩ := hq
  obtain ⟨fs18, he19, hl20, e21⟩ := pf_e hh17
  refine X_putF (k := 5) C hin oWa fwWa_15 ⟨rfl, rfl⟩ he19 rfl rfl hl20 dWa_init_15 ?_
  rw [← e21]
  refine X_aload_n C dWa_init_18 rfl ?_
  refine X_iload_n C dWa_init_19 rfl ?_
  have hq := o_bind hR
  clear hR
  obtain ⟨h22, hh23, hR⟩ := hq
  obtain ⟨fs24, he25, hl26, e27⟩ := pf_e hh23
  refine X_putF (k := 0) C hin oWa fwWa_18 ⟨rfl, rfl⟩ he25 rfl rfl hl26 dWa_init_20 ?_
  rw [← e27]
  refine X_aload_n C dWa_init_23 rfl ?_
  refine X_iload_n C dWa_init_24 rfl ?_
  have hq := o_bind hR
  clear hR
  obtain ⟨h28, hh29, hR⟩ := hq
  obtain ⟨fs30, he31, hl32, e33⟩ := pf_e hh29
  refine X_putF (k := 1) C hin oWa fwWa_22 ⟨rfl, rfl⟩ he31 rfl rfl hl32 dWa_init_25 ?_
  rw [← e33]
  refine X_aload_n C dWa_init_28 rfl ?_
  refine X_iload_n C dWa_init_29 rfl ?_
  have hq := o_bind hR
  clear hR
  obtain ⟨h34, hh35, hR⟩ := hq
  obtain ⟨fs36, he37, hl38, e39⟩ := pf_e hh35
  refine X_putF (k := 2) C hin oWa fwWa_25 ⟨rfl, rfl⟩ he37 rfl rfl hl38 dWa_init_30 ?_
  rw [← e39]
  refine X_aload_n C dWa_init_33 rfl ?_
  refine X_iload C dWa_init_34 rfl ?_
  have hq := o_bind hR
  clear hR
  obtain ⟨h40, hh41, hR⟩ := hq
  obtain ⟨fs42, he43, hl44, e45⟩ := pf_e hh41
  refine X_putF (k := 3) C hin oWa fwWa_28 ⟨rfl, rfl⟩ he43 rfl rfl hl44 dWa_init_36 ?_
  rw [← e45]
  have hR := Option.some.inj hR
  subst hR
  dsimp only at hm hs hz ⊢
  exact X_vret C hr (by omega) (by omega) dWa_init_39 ⟨rfl, rfl, by omega⟩
theorem Wa_init_c {l : Launch} {G : xG} {B sz : Nat} {o : Nat} {n : Nat} {x1 : Int32} {x2 : Int32} {x3 : Int32} {x4 : Int32} {h : xH} {R : Int32 × xH × Nat × Nat} (hR : Wa_init_f n o x1 x2 x3 x4 h sz = some R) : xCon l yWa_init cWa_init 5 none 2 41 R.2.2.1 R.2.2.2 G B [.ref (o), .int (x1), .int (x2), .int (x3), .int (x4)] h sz (kP none R.2.1 (sz + R.2.2.1)) := xCon.of (by decide) (by exact Nat.le_of_ble_eq_true rfl) (fun F e C hr hnm => X_sub (lv' := [(0, .ref (o)), (1, .int (x1)), (2, .int (x2)), (3, .int (x3)), (4, .int (x4))]) [0, 1, 2, 3, 4] rfl (Wa_init_x C hr hnm (Nat.le_of_eq (Nat.zero_add _)) (Nat.le_of_eq (Nat.zero_add _)) rfl hR))
def Wa_asItIs_f (n : Nat) (o : Nat)  (h : xH) (z : Nat) : Option (Option Nat × xH × Nat × Nat) := oadd 1 7 (bnd (xup h (z) (.inr (7, [.int 0, .int 0, .int 0, .int 0, .null, .null, .int 0]))) (fun h1 => obd (gi h1 (o) 7 0) (fun u5 => obd (gi h1 (o) 7 1) (fun u10 => obd (gi h1 (o) 7 2) (fun u15 => obd (gi h1 (o) 7 3) (fun u20 => obd (Wa_init_f n (z) (u5) (u10) (u15) (u20) h1 (z + 1)) (fun r25 => oadd r25.2.2.1 r25.2.2.2 (obd (gq r25.2.1 (o) 7 4) (fun w26 => obd (gq r25.2.1 (z) 7 4) (fun w31 => obd w26 (fun a36 => obd w31 (fun a37 => obd (cpi r25.2.1 (a36) ((0 : Int32)) (a37) ((0 : Int32)) ((3 : Int32))) (fun h38 => obd (gq h38 (o) 7 5) (fun w52 => obd (gq h38 (z) 7 5) (fun w57 => obd w52 (fun a62 => obd w57 (fun a63 => obd (cpi h38 (a62) ((0 : Int32)) (a63) ((0 : Int32)) ((3 : Int32))) (fun h64 => obd (gi h64 (o) 7 6) (fun u78 => obd (pf h64 (z) 7 6 (.int (u78))) (fun h83 => some ((some (z)), h83, 0, 0)))))))))))))))))))))
set_option maxRecDepth 100000 in
set_option maxHeartbeats 8000000 in
theorem Wa_asItIs_x {F : xF} {G : xG} {B mc ms : Nat} {o : Nat} (C : xC F G B cWa_asItIs RWa 2 3 65 mc ms) (hr : (xFM F).sig.returnType = (some (.object "TimedYard$Way"))) {n : Nat} {h : xH} {z cs ss : Nat} {R : Option Nat × xH × Nat × Nat} {Zf : Nat} (hm : cs + R.2.2.1 ≤ mc) (hs : ss + R.2.2.2 ≤ ms) (hz : Zf = z + R.2.2.1) (hR : Wa_asItIs_f n o  h z = some R) : X F G B (xZ F G B (kP (some (va_rf R.1)) R.2.1 Zf) mc ms) 2 h z cs ss 0 [(0, .ref (o))] [] := by
  unfold Wa_asItIs_f at hR
  have hq := o_add hR
  clear hR
  obtain ⟨R4, e3, hR⟩ := hq
  subst e3
  dsimp only at hm hs hz ⊢
  refine X_new (fs := [.int 0, .int 0, .int 0, .int 0, .null, .null, .int 0]) C oWa nwWa_10 (fun j hj => by rcases (show j = 0 ∨ j = 1 ∨ j = 2 ∨ j = 3 ∨ j = 4 ∨ j = 5 ∨ j = 6 by omega) with rfl | rfl | rfl | rfl | rfl | rfl | rfl <;> rfl) (by omega) (by omega) dWa_asItIs_0 (fun _ _ => ?_)
  have hq := b_bnd hR
  clear hR
  obtain ⟨h1, e2, hR⟩ := hq
  rw [← e2]
  refine X_dup C dWa_asItIs_3 rfl ?_
  refine X_aload_n C dWa_asItIs_4 rfl ?_
  have hq := o_bind hR
  clear hR
  obtain ⟨u5, hx9, hR⟩ := hq
  obtain ⟨fs6, he7, hv8⟩ := gi_e hx9
  refine X_get (k := 0) C oWa fwWa_18 he7 hv8 dWa_asItIs_5 ?_
  refine X_aload_n C dWa_asItIs_8 rfl ?_
  have hq := o_bind hR
  clear hR
  obtain ⟨u10, hx14, hR⟩ := hq
  obtain ⟨fs11, he12, hv13⟩ := gi_e hx14
  refine X_get (k := 1) C oWa fwWa_22 he12 hv13 dWa_asItIs_9 ?_
  refine X_aload_n C dWa_asItIs_12 rfl ?_
  have hq := o_bind hR
  clear hR
  obtain ⟨u15, hx19, hR⟩ := hq
  obtain ⟨fs16, he17, hv18⟩ := gi_e hx19
  refine X_get (k := 2) C oWa fwWa_25 he17 hv18 dWa_asItIs_13 ?_
  refine X_aload_n C dWa_asItIs_16 rfl ?_
  have hq := o_bind hR
  clear hR
  obtain ⟨u20, hx24, hR⟩ := hq
  obtain ⟨fs21, he22, hv23⟩ := gi_e hx24
  refine X_get (k := 3) C oWa fwWa_28 he22 hv23 dWa_asItIs_17 ?_
  have hq := o_bind hR
  clear hR
  obtain ⟨r25, hr25, hR⟩ := hq
  have hq := o_add hR
  clear hR
  obtain ⟨R90, e89, hR⟩ := hq
  subst e89
  dsimp only at hm hs hz ⊢
  refine X_callIa (As := [.int (u5), .int (u10), .int (u15), .int (u20)]) (rest := [.ref (z)]) C (Wa_init_c hr25) wWa_31 ⟨by decide, by decide⟩ ⟨by omega, by omega⟩ rfl rfl (Nat.le_of_ble_eq_true rfl) dWa_asItIs_20 ?_
  show X F G B _ 2 (r25.2.1) _ _ _ _ _ [.ref (z)]
  refine X_astore_n (lv' := [(1, .ref (z)), (0, .ref (o))]) C dWa_asItIs_23 (by decide) rfl ?_
  refine X_aload_n C dWa_asItIs_24 rfl ?_
  have hq := o_bind hR
  clear hR
  obtain ⟨w26, hx30, hR⟩ := hq
  obtain ⟨fs27, he28, hv29⟩ := gq_e hx30
  refine X_get (k := 4) C oWa fwWa_9 he28 hv29 dWa_asItIs_25 ?_
  refine X_iconst (v := 0) C dWa_asItIs_28 rfl ?_
  refine X_aload_n C dWa_asItIs_29 rfl ?_
  have hq := o_bind hR
  clear hR
  obtain ⟨w31, hx35, hR⟩ := hq
  obtain ⟨fs32, he33, hv34⟩ := gq_e hx35
  refine X_get (k := 4) C oWa fwWa_9 he33 hv34 dWa_asItIs_30 ?_
  refine X_iconst (v := 0) C dWa_asItIs_33 rfl ?_
  refine X_iconst (v := 3) C dWa_asItIs_34 rfl ?_
  have hq := o_bind hR
  clear hR
  obtain ⟨a36, rfl, hR⟩ := hq
  have hq := o_bind hR
  clear hR
  obtain ⟨a37, rfl, hR⟩ := hq
  have hq := o_bind hR
  clear hR
  obtain ⟨h38, hh39, hR⟩ := hq
  obtain ⟨n40, n41, n42, n43, n44, n45, n46, n47, n48, n49, n50, n51⟩ := cpi_e hh39
  refine X_copyi C cpWa_34 rfl n44 n45 n46 n47 n48 n49 n50 ⟨by decide, Nat.le_of_ble_eq_true rfl⟩ dWa_asItIs_35 ?_
  rw [← n51]
  refine X_aload_n C dWa_asItIs_38 rfl ?_
  have hq := o_bind hR
  clear hR
  obtain ⟨w52, hx56, hR⟩ := hq
  obtain ⟨fs53, he54, hv55⟩ := gq_e hx56
  refine X_get (k := 5) C oWa fwWa_15 he54 hv55 dWa_asItIs_39 ?_
  refine X_iconst (v := 0) C dWa_asItIs_42 rfl ?_
  refine X_aload_n C dWa_asItIs_43 rfl ?_
  have hq := o_bind hR
  clear hR
  obtain ⟨w57, hx61, hR⟩ := hq
  obtain ⟨fs58, he59, hv60⟩ := gq_e hx61
  refine X_get (k := 5) C oWa fwWa_15 he59 hv60 dWa_asItIs_44 ?_
  refine X_iconst (v := 0) C dWa_asItIs_47 rfl ?_
  refine X_iconst (v := 3) C dWa_asItIs_48 rfl ?_
  have hq := o_bind hR
  clear hR
  obtain ⟨a62, rfl, hR⟩ := hq
  have hq := o_bind hR
  clear hR
  obtain ⟨a63, rfl, hR⟩ := hq
  have hq := o_bind hR
  clear hR
  obtain ⟨h64, hh65, hR⟩ := hq
  obtain ⟨n66, n67, n68, n69, n70, n71, n72, n73, n74, n75, n76, n77⟩ := cpi_e hh65
  refine X_copyi C cpWa_34 rfl n70 n71 n72 n73 n74 n75 n76 ⟨by decide, Nat.le_of_ble_eq_true rfl⟩ dWa_asItIs_49 ?_
  rw [← n77]
  refine X_aload_n C dWa_asItIs_52 rfl ?_
  refine X_aload_n C dWa_asItIs_53 rfl ?_
  have hq := o_bind hR
  clear hR
  obtain ⟨u78, hx82, hR⟩ := hq
  obtain ⟨fs79, he80, hv81⟩ := gi_e hx82
  refine X_get (k := 6) C oWa fwWa_40 he80 hv81 dWa_asItIs_54 ?_
  have hq := o_bind hR
  clear hR
  obtain ⟨h83, hh84, hR⟩ := hq
  obtain ⟨fs85, he86, hl87, e88⟩ := pf_e hh84
  refine X_put (k := 6) C oWa fwWa_40 rfl he86 rfl rfl hl87 dWa_asItIs_57 ?_
  rw [← e88]
  refine X_aload_n C dWa_asItIs_60 rfl ?_
  have hR := Option.some.inj hR
  subst hR
  dsimp only at hm hs hz ⊢
  exact X_aret C hr (Or.inl ⟨_, rfl⟩) (Or.inr ⟨_, rfl⟩) (by omega) (by omega) dWa_asItIs_61 ⟨rfl, rfl, by omega⟩
theorem Wa_asItIs_c {l : Launch} {G : xG} {B sz : Nat} {o : Nat} {n : Nat} {h : xH} {R : Option Nat × xH × Nat × Nat} (hR : Wa_asItIs_f n o  h sz = some R) : xCon l yWa_asItIs cWa_asItIs 2 (some (.object "TimedYard$Way")) 3 65 R.2.2.1 R.2.2.2 G B [.ref (o)] h sz (kP (some (va_rf R.1)) R.2.1 (sz + R.2.2.1)) := xCon.of (by decide) (by exact Nat.le_of_ble_eq_true rfl) (fun F e C hr hnm => X_sub (lv' := [(0, .ref (o))]) [0] rfl (Wa_asItIs_x C hr (Nat.le_of_eq (Nat.zero_add _)) (Nat.le_of_eq (Nat.zero_add _)) rfl hR))
def Wa_heft_f (n : Nat) (o : Nat)  (h : xH) : Option (Int32 × xH) := obd (gi h (o) 7 6) (fun u1 => obd (gi h (o) 7 2) (fun u6 => (if u6 = 0 then some (((10 : Int32)) + (u1), h) else obd (gi h (o) 7 2) (fun u12 => (if u12 ≤ 0 then some (((2 : Int32)) * ((((10 : Int32)) + (u1)) + ((100 : Int32))), h) else some ((((10 : Int32)) + (u1)) + ((100 : Int32)), h))))))
set_option maxRecDepth 100000 in
set_option maxHeartbeats 8000000 in
theorem Wa_heft_x {F : xF} {G : xG} {B sz : Nat} {o : Nat} (C : xC F G B cWa_heft RWa 2 0 0 0 0) (hr : (xFM F).sig.returnType = (some .int)) {n : Nat} {h : xH} {R : Int32 × xH} (hR : Wa_heft_f n o  h = some R) : X F G B (xZ F G B (kP (some (.int R.1)) R.2 sz) 0 0) 2 h sz 0 0 0 [(0, .ref (o))] [] := by
  unfold Wa_heft_f at hR
  refine X_bipush (v := 10) C dWa_heft_0 (by decide) ?_
  refine X_aload_n C dWa_heft_2 rfl ?_
  have hq := o_bind hR
  clear hR
  obtain ⟨u1, hx5, hR⟩ := hq
  obtain ⟨fs2, he3, hv4⟩ := gi_e hx5
  refine X_get (k := 6) C oWa fwWa_40 he3 hv4 dWa_heft_3 ?_
  refine X_iadd C dWa_heft_6 ?_
  refine X_istore_n (lv' := [(1, .int (((10 : Int32)) + (u1))), (0, .ref (o))]) C dWa_heft_7 (by decide) rfl ?_
  refine X_aload_n C dWa_heft_8 rfl ?_
  have hq := o_bind hR
  clear hR
  obtain ⟨u6, hx10, hR⟩ := hq
  obtain ⟨fs7, he8, hv9⟩ := gi_e hx10
  refine X_get (k := 2) C oWa fwWa_25 he8 hv9 dWa_heft_9 ?_
  refine X_if_ne (tgt := 17) C dWa_heft_12 (by decide) (fun c11 => ?_) (fun c11 => ?_)
  · rw [if_neg c11] at hR
    refine X_aload_n C dWa_heft_17 rfl ?_
    have hq := o_bind hR
    clear hR
    obtain ⟨u12, hx16, hR⟩ := hq
    obtain ⟨fs13, he14, hv15⟩ := gi_e hx16
    refine X_get (k := 2) C oWa fwWa_25 he14 hv15 dWa_heft_18 ?_
    refine X_if_le (tgt := 31) C dWa_heft_21 (by decide) (fun c17 => ?_) (fun c17 => ?_)
    · rw [if_pos c17] at hR
      refine X_iconst (v := 2) C dWa_heft_31 rfl ?_
      refine X_iload_n C dWa_heft_32 rfl ?_
      refine X_bipush (v := 100) C dWa_heft_33 (by decide) ?_
      refine X_iadd C dWa_heft_35 ?_
      refine X_imul C dWa_heft_36 ?_
      rw [← Option.some.inj hR]
      exact X_iret C hr (Nat.le_refl _) (Nat.le_refl _) dWa_heft_37 ⟨rfl, rfl, rfl⟩
    · rw [if_neg c17] at hR
      refine X_iload_n C dWa_heft_24 rfl ?_
      refine X_bipush (v := 100) C dWa_heft_25 (by decide) ?_
      refine X_iadd C dWa_heft_27 ?_
      refine X_goto (tgt := 37) C dWa_heft_28 (by decide) ?_
      rw [← Option.some.inj hR]
      exact X_iret C hr (Nat.le_refl _) (Nat.le_refl _) dWa_heft_37 ⟨rfl, rfl, rfl⟩
  · rw [if_pos c11] at hR
    refine X_iload_n C dWa_heft_15 rfl ?_
    rw [← Option.some.inj hR]
    exact X_iret C hr (Nat.le_refl _) (Nat.le_refl _) dWa_heft_16 ⟨rfl, rfl, rfl⟩
theorem Wa_heft_c {l : Launch} {G : xG} {B sz : Nat} {o : Nat} {n : Nat} {h : xH} {R : Int32 × xH} (hR : Wa_heft_f n o  h = some R) : xCon l yWa_heft cWa_heft 2 (some .int) 0 0 0 0 G B [.ref (o)] h sz (kP (some (.int R.1)) R.2 sz) := xCon.of (by decide) (by exact Nat.le_of_ble_eq_true rfl) (fun F e C hr hnm => X_sub (lv' := [(0, .ref (o))]) [0] rfl (Wa_heft_x C hr hR))
def Ya_init_f (n : Nat) (o : Nat)  (h : xH) (z : Nat) : Option (Int32 × xH × Nat × Nat) := oadd 1 3 (bnd (xup h (z) (.inl (6, 3, .inr (.inr (.inr (.inr (fun _ => none))))))) (fun h1 => obd (pf h1 (o) 3 0 (.ref (z))) (fun h5 => oadd 1 200 (bnd (xup h5 (z + 1) (.inl (7, 200, .inr (.inr (.inr (.inr (fun _ => none))))))) (fun h11 => obd (pf h11 (o) 3 2 (.ref (z + 1))) (fun h15 => obd (pf h15 (o) 3 8 (.int ((1 : Int32)))) (fun h21 => oadd 1 4 (bnd (xup h21 (z + 1 + 1) (.inl (0, 4, .inl (fun _ => 0)))) (fun h27 => obd (pf h27 (o) 3 9 (.ref (z + 1 + 1))) (fun h31 => oadd 1 3 (bnd (xup h31 (z + 1 + 1 + 1) (.inl (0, 3, .inl (fun _ => 0)))) (fun h37 => obd (pf h37 (o) 3 10 (.ref (z + 1 + 1 + 1))) (fun h41 => oadd 1 3 (bnd (xup h41 (z + 1 + 1 + 1 + 1) (.inr (1, [.int 0, .null, .int 0]))) (fun h47 => obd (Zo_init_f n (z + 1 + 1 + 1 + 1) ((0 : Int32)) h47 (z + 1 + 1 + 1 + 1 + 1)) (fun r51 => oadd r51.2.2.1 r51.2.2.2 (obd (pf r51.2.1 (o) 3 11 (.ref (z + 1 + 1 + 1 + 1))) (fun h52 => some (0, h52, 0, 0)))))))))))))))))))
set_option maxRecDepth 100000 in
set_option maxHeartbeats 8000000 in
theorem Ya_init_x {F : xF} {G : xG} {B mc ms : Nat} {o : Nat} (C : xC F G B cYa_init RYa 1 2 44 mc ms) (hr : (xFM F).sig.returnType = none) (hin : (xFM F).name = "<init>") {n : Nat} {h : xH} {z cs ss : Nat} {R : Int32 × xH × Nat × Nat} {Zf : Nat} (hm : cs + R.2.2.1 ≤ mc) (hs : ss + R.2.2.2 ≤ ms) (hz : Zf = z + R.2.2.1) (hR : Ya_init_f n o  h z = some R) : X F G B (xZ F G B (kP none R.2.1 Zf) mc ms) 1 h z cs ss 0 [(0, .ref (o))] [] := by
  unfold Ya_init_f at hR
  refine X_aload_n C dYa_init_0 rfl ?_
  refine X_obj C obYa_3 ⟨by decide, Nat.le_of_ble_eq_true rfl⟩ dYa_init_1 ?_
  refine X_aload_n C dYa_init_4 rfl ?_
  refine X_iconst (v := 3) C dYa_init_5 rfl ?_
  have hq := o_add hR
  clear hR
  obtain ⟨R4, e3, hR⟩ := hq
  subst e3
  dsimp only at hm hs hz ⊢
  refine X_anew (k := 6) (N := 3) C rfl naYa_9 (by decide) (by decide) (by decide) (by omega) (by omega) dYa_init_6 (fun _ _ => ?_)
  have hq := b_bnd hR
  clear hR
  obtain ⟨h1, e2, hR⟩ := hq
  rw [← e2]
  have hq := o_bind hR
  clear hR
  obtain ⟨h5, hh6, hR⟩ := hq
  obtain ⟨fs7, he8, hl9, e10⟩ := pf_e hh6
  refine X_putF (k := 0) C hin oYa fwYa_11 ⟨rfl, rfl⟩ he8 rfl rfl hl9 dYa_init_9 ?_
  rw [← e10]
  refine X_aload_n C dYa_init_12 rfl ?_
  refine X_sipush (v := 200) C dYa_init_13 (by decide) ?_
  have hq := o_add hR
  clear hR
  obtain ⟨R14, e13, hR⟩ := hq
  subst e13
  dsimp only at hm hs hz ⊢
  refine X_anew (k := 7) (N := 200) C rfl naYa_17 (by decide) (by decide) (by decide) (by omega) (by omega) dYa_init_16 (fun _ _ => ?_)
  have hq := b_bnd hR
  clear hR
  obtain ⟨h11, e12, hR⟩ := hq
  rw [← e12]
  have hq := o_bind hR
  clear hR
  obtain ⟨h15, hh16, hR⟩ := hq
  obtain ⟨fs17, he18, hl19, e20⟩ := pf_e hh16
  refine X_putF (k := 2) C hin oYa fwYa_19 ⟨rfl, rfl⟩ he18 rfl rfl hl19 dYa_init_19 ?_
  rw [← e20]
  refine X_aload_n C dYa_init_22 rfl ?_
  refine X_iconst (v := 1) C dYa_init_23 rfl ?_
  have hq := o_bind hR
  clear hR
  obtain ⟨h21, hh22, hR⟩ := hq
  obtain ⟨fs23, he24, hl25, e26⟩ := pf_e hh22
  refine X_put (k := 8) C oYa fwYa_23 rfl he24 rfl rfl hl25 dYa_init_24 ?_
  rw [← e26]
  refine X_aload_n C dYa_init_27 rfl ?_
  refine X_iconst (v := 4) C dYa_init_28 rfl ?_
  have hq := o_add hR
  clear hR
  obtain ⟨R30, e29, hR⟩ := hq
  subst e29
  dsimp only at hm hs hz ⊢
  refine X_newa (k := 0) (N := 4) (ty := .int) (a0 := (4, .inl (fun _ => 0))) C rfl na_int (fun _ => rfl) (by decide) (by decide) (by decide) (by omega) (by omega) dYa_init_29 (fun _ _ => ?_)
  have hq := b_bnd hR
  clear hR
  obtain ⟨h27, e28, hR⟩ := hq
  rw [← e28]
  have hq := o_bind hR
  clear hR
  obtain ⟨h31, hh32, hR⟩ := hq
  obtain ⟨fs33, he34, hl35, e36⟩ := pf_e hh32
  refine X_putF (k := 9) C hin oYa fwYa_27 ⟨rfl, rfl⟩ he34 rfl rfl hl35 dYa_init_31 ?_
  rw [← e36]
  refine X_aload_n C dYa_init_34 rfl ?_
  refine X_iconst (v := 3) C dYa_init_35 rfl ?_
  have hq := o_add hR
  clear hR
  obtain ⟨R40, e39, hR⟩ := hq
  subst e39
  dsimp only at hm hs hz ⊢
  refine X_newa (k := 0) (N := 3) (ty := .int) (a0 := (3, .inl (fun _ => 0))) C rfl na_int (fun _ => rfl) (by decide) (by decide) (by decide) (by omega) (by omega) dYa_init_36 (fun _ _ => ?_)
  have hq := b_bnd hR
  clear hR
  obtain ⟨h37, e38, hR⟩ := hq
  rw [← e38]
  have hq := o_bind hR
  clear hR
  obtain ⟨h41, hh42, hR⟩ := hq
  obtain ⟨fs43, he44, hl45, e46⟩ := pf_e hh42
  refine X_putF (k := 10) C hin oYa fwYa_31 ⟨rfl, rfl⟩ he44 rfl rfl hl45 dYa_init_38 ?_
  rw [← e46]
  refine X_aload_n C dYa_init_41 rfl ?_
  have hq := o_add hR
  clear hR
  obtain ⟨R50, e49, hR⟩ := hq
  subst e49
  dsimp only at hm hs hz ⊢
  refine X_new (fs := [.int 0, .null, .int 0]) C oZo nwYa_34 (fun j hj => by rcases (show j = 0 ∨ j = 1 ∨ j = 2 by omega) with rfl | rfl | rfl <;> rfl) (by omega) (by omega) dYa_init_42 (fun _ _ => ?_)
  have hq := b_bnd hR
  clear hR
  obtain ⟨h47, e48, hR⟩ := hq
  rw [← e48]
  refine X_dup C dYa_init_45 rfl ?_
  refine X_iconst (v := 0) C dYa_init_46 rfl ?_
  have hq := o_bind hR
  clear hR
  obtain ⟨r51, hr51, hR⟩ := hq
  have hq := o_add hR
  clear hR
  obtain ⟨R59, e58, hR⟩ := hq
  subst e58
  dsimp only at hm hs hz ⊢
  refine X_callIa (As := [.int ((0 : Int32))]) (rest := [.ref (z + 1 + 1 + 1 + 1), .ref (o)]) C (Zo_init_c hr51) wYa_36 ⟨by decide, by decide⟩ ⟨by omega, by omega⟩ rfl rfl (Nat.le_of_ble_eq_true rfl) dYa_init_47 ?_
  show X F G B _ 1 (r51.2.1) _ _ _ _ _ [.ref (z + 1 + 1 + 1 + 1), .ref (o)]
  have hq := o_bind hR
  clear hR
  obtain ⟨h52, hh53, hR⟩ := hq
  obtain ⟨fs54, he55, hl56, e57⟩ := pf_e hh53
  refine X_putF (k := 11) C hin oYa fwYa_39 ⟨rfl, rfl⟩ he55 rfl rfl hl56 dYa_init_50 ?_
  rw [← e57]
  have hR := Option.some.inj hR
  subst hR
  dsimp only at hm hs hz ⊢
  exact X_vret C hr (by omega) (by omega) dYa_init_53 ⟨rfl, rfl, by omega⟩
theorem Ya_init_c {l : Launch} {G : xG} {B sz : Nat} {o : Nat} {n : Nat} {h : xH} {R : Int32 × xH × Nat × Nat} (hR : Ya_init_f n o  h sz = some R) : xCon l yYa_init cYa_init 1 none 2 44 R.2.2.1 R.2.2.2 G B [.ref (o)] h sz (kP none R.2.1 (sz + R.2.2.1)) := xCon.of (by decide) (by exact Nat.le_of_ble_eq_true rfl) (fun F e C hr hnm => X_sub (lv' := [(0, .ref (o))]) [0] rfl (Ya_init_x C hr hnm (Nat.le_of_eq (Nat.zero_add _)) (Nat.le_of_eq (Nat.zero_add _)) rfl hR))
