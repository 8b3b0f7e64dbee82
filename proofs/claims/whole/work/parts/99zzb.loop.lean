/-! THE LAW's loop -/
theorem PR_mono {n : Nat} {D : kD} {κ : kS} {σ : mS} {τ : mL} {z : Nat} (P : PR n D κ σ τ z) : PR (n + 1) D κ σ τ z := by
  obtain ⟨a, b, c, d, e, f, g, h⟩ := P
  exact ⟨a, b, c, d, HR_mono (Nat.le_succ n) e, f, g, by omega⟩
section LP
variable {F : xF} {G : xG} {B : Nat} {Y : Nat → Nat} {b L : Nat} {xs : Nat → Int32} {Q : State → Prop} {o r w : Nat} {ad : Nat → Nat}
theorem law_loop (E : LW F G B Y b L xs) (hend : ∀ (h : xH) (z : Nat) (lv : List (Nat × Value)), X F G B Q 8 h z 601024 7293034 1381 lv []) : ∀ (d n : Nat) (D : kD) (κ : kS) (σ : mS) (τ : mL) (h : xH) (z cs ss : Nat), n + d = 513 → LI n o r ad w D κ σ τ h z → cs ≤ cB κ n → ss ≤ sB κ n → X F G B Q 8 h z cs ss 23 (lvL b o r w n) [] := by
  have C := E.1
  have hL := E.2.2.2.2.2.2
  have s6 : (6 : Int32).toInt = 6 := by decide
  intro d
  induction d with
  | zero =>
    intro n D κ σ τ h z cs ss hd I hc hs
    have h200 := I.st
    unfold cB at hc
    unfold sB at hs
    refine X_iload C dL_law_23 rfl (X_aload_n C dL_law_25 rfl (X_slen E dL_law_26 (X_bipush C (v := 6) dL_law_27 (by decide) (X_isub C dL_law_29 ?_))))
    have e1 : (J L - 6).toInt = (L : Int) - 6 := by
      rw [Int32.toInt_sub, J_int (by omega), s6]
      exact bm_id (by omega) (by omega)
    refine X_icmp_gt C (tgt := 1381) dL_law_30 (by decide) (fun _ => X_wid (by omega) (by omega) (hend _ _ _)) (fun t => ?_)
    exfalso
    apply t
    rw [i32_lt, e1, J_int (by omega)]
    omega
  | succ d ih =>
    intro n D κ σ τ h z cs ss hd I hc hs
    have h200 := I.st
    refine X_iload C dL_law_23 rfl (X_aload_n C dL_law_25 rfl (X_slen E dL_law_26 (X_bipush C (v := 6) dL_law_27 (by decide) (X_isub C dL_law_29 ?_))))
    have e1 : (J L - 6).toInt = (L : Int) - 6 := by
      rw [Int32.toInt_sub, J_int (by omega), s6]
      exact bm_id (by omega) (by omega)
    refine X_icmp_gt C (tgt := 1381) dL_law_30 (by decide) (fun _ => X_wid (by unfold cB at hc; omega) (by unfold sB at hs; omega) (hend _ _ _)) (fun t => ?_)
    have hn : 6 * n + 6 ≤ L := by
      rw [i32_lt, e1, J_int (by omega)] at t
      omega
    have nx : NX F G B Q b o r ad w n := fun D' κ' σ' τ' h' z' cs' ss' I' hc' hs' => by
      refine X_iinc (v := J (6 * (n + 1))) (lv' := [(4, .int (J (6 * (n + 1)))), (0, .ref b), (1, .ref o), (2, .ref r), (3, .ref w)]) C dL_law_1375 rfl ?_ (by decide) rfl ?_
      · rw [show Int32.ofInt 6 = J 6 from rfl, J_add]
        rfl
      · refine X_goto C (tgt := 23) dL_law_1378 (by decide) ?_
        exact X_sub (lv' := lvL b o r w (n + 1)) [1, 2, 3, 4, 0] rfl (ih (n + 1) D' κ' σ' τ' h' z' cs' ss' (by omega) I' hc' hs')
    refine X_aload_n C dL_law_33 rfl (X_iload C dL_law_34 rfl (X_sld E (vp_J (by omega) (by omega)) dL_law_36 (X_bipush C (v := 31) dL_law_37 (by decide) (X_iand C dL_law_39 ?_))))
    obtain ⟨c, hc32, ec⟩ := and31 (xs (Int32.toNatClampNeg (J (6 * n))))
    rw [ec]
    have cc : c = 0 ∨ c = 1 ∨ c = 2 ∨ c = 3 ∨ c = 4 ∨ c = 5 ∨ c = 6 ∨ c = 7 ∨ c = 8 ∨ c = 9 ∨ c = 10 ∨ c = 11 ∨ c = 12 ∨ c = 13 ∨ c = 14 ∨ c = 15 ∨ c = 16 ∨ c = 17 ∨ c = 18 ∨ c = 19 ∨ c = 20 ∨ c = 21 ∨ c = 22 ∨ c = 23 ∨ c = 24 ∨ c = 25 ∨ c = 26 ∨ 27 ≤ c := by omega
    rcases cc with rfl | rfl | rfl | rfl | rfl | rfl | rfl | rfl | rfl | rfl | rfl | rfl | rfl | rfl | rfl | rfl | rfl | rfl | rfl | rfl | rfl | rfl | rfl | rfl | rfl | rfl | rfl | c27
    · exact X_tableIn C (off := 124) (tgt := 164) dL_law_40 (by decide) (by decide) (by decide) (by decide) (lawc_0 E hn I hc hs nx)
    · exact X_tableIn C (off := 137) (tgt := 177) dL_law_40 (by decide) (by decide) (by decide) (by decide) (lawc_1 E hn I hc hs nx)
    · exact X_tableIn C (off := 162) (tgt := 202) dL_law_40 (by decide) (by decide) (by decide) (by decide) (lawc_2 E hn I hc hs nx)
    · exact X_tableIn C (off := 251) (tgt := 291) dL_law_40 (by decide) (by decide) (by decide) (by decide) (lawc_3 E hn I hc hs nx)
    · exact X_tableIn C (off := 324) (tgt := 364) dL_law_40 (by decide) (by decide) (by decide) (by decide) (lawc_4 E hn I hc hs nx)
    · exact X_tableIn C (off := 413) (tgt := 453) dL_law_40 (by decide) (by decide) (by decide) (by decide) (lawc_5 E hn I hc hs nx)
    · exact X_tableIn C (off := 426) (tgt := 466) dL_law_40 (by decide) (by decide) (by decide) (by decide) (lawc_6 E hn I hc hs nx)
    · exact X_tableIn C (off := 463) (tgt := 503) dL_law_40 (by decide) (by decide) (by decide) (by decide) (lawc_7 E hn I hc hs nx)
    · exact X_tableIn C (off := 543) (tgt := 583) dL_law_40 (by decide) (by decide) (by decide) (by decide) (lawc_8 E hn I hc hs nx)
    · exact X_tableIn C (off := 592) (tgt := 632) dL_law_40 (by decide) (by decide) (by decide) (by decide) (lawc_9 E hn I hc hs nx)
    · exact X_tableIn C (off := 641) (tgt := 681) dL_law_40 (by decide) (by decide) (by decide) (by decide) (lawc_10 E hn I hc hs nx)
    · exact X_tableIn C (off := 666) (tgt := 706) dL_law_40 (by decide) (by decide) (by decide) (by decide) (lawc_11 E hn I hc hs nx)
    · exact X_tableIn C (off := 691) (tgt := 731) dL_law_40 (by decide) (by decide) (by decide) (by decide) (lawc_12 E hn I hc hs nx)
    · exact X_tableIn C (off := 728) (tgt := 768) dL_law_40 (by decide) (by decide) (by decide) (by decide) (lawc_13 E hn I hc hs nx)
    · exact X_tableIn C (off := 805) (tgt := 845) dL_law_40 (by decide) (by decide) (by decide) (by decide) (lawc_14 E hn I hc hs nx)
    · exact X_tableIn C (off := 818) (tgt := 858) dL_law_40 (by decide) (by decide) (by decide) (by decide) (lawc_15 E hn I hc hs nx)
    · exact X_tableIn C (off := 843) (tgt := 883) dL_law_40 (by decide) (by decide) (by decide) (by decide) (lawc_16 E hn I hc hs nx)
    · exact X_tableIn C (off := 892) (tgt := 932) dL_law_40 (by decide) (by decide) (by decide) (by decide) (lawc_17 E hn I hc hs nx)
    · exact X_tableIn C (off := 917) (tgt := 957) dL_law_40 (by decide) (by decide) (by decide) (by decide) (lawc_18 E hn I hc hs nx)
    · exact X_tableIn C (off := 942) (tgt := 982) dL_law_40 (by decide) (by decide) (by decide) (by decide) (lawc_19 E hn I hc hs nx)
    · exact X_tableIn C (off := 1010) (tgt := 1050) dL_law_40 (by decide) (by decide) (by decide) (by decide) (lawc_20 E hn I hc hs nx)
    · exact X_tableIn C (off := 1035) (tgt := 1075) dL_law_40 (by decide) (by decide) (by decide) (by decide) (lawc_21 E hn I hc hs nx)
    · exact X_tableIn C (off := 1096) (tgt := 1136) dL_law_40 (by decide) (by decide) (by decide) (by decide) (lawc_22 E hn I hc hs nx)
    · exact X_tableIn C (off := 1145) (tgt := 1185) dL_law_40 (by decide) (by decide) (by decide) (by decide) (lawc_23 E hn I hc hs nx)
    · exact X_tableIn C (off := 1212) (tgt := 1252) dL_law_40 (by decide) (by decide) (by decide) (by decide) (lawc_24 E hn I hc hs nx)
    · exact X_tableIn C (off := 1285) (tgt := 1325) dL_law_40 (by decide) (by decide) (by decide) (by decide) (lawc_25 E hn I hc hs nx)
    · exact X_tableIn C (off := 1310) (tgt := 1350) dL_law_40 (by decide) (by decide) (by decide) (by decide) (lawc_26 E hn I hc hs nx)
    · refine X_tableOut C (tgt := 1375) dL_law_40 (Or.inr (by rw [J_int (by omega)]; omega)) (by decide) ?_
      exact nx D κ σ τ h z cs ss ⟨PR_mono I.1, I.2⟩ (by unfold cB at hc ⊢; omega) (by unfold sB at hs ⊢; omega)
end LP
