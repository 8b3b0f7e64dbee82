/-! THE LAW: cases 5 to 12 -/
section LC1
variable {F : xF} {G : xG} {B : Nat} {Y : Nat → Nat} {b L : Nat} {xs : Nat → Int32} {Q : State → Prop} {n o r w z cs ss : Nat} {ad : Nat → Nat} {D : kD} {κ : kS} {σ : mS} {τ : mL} {h : xH}
set_option maxHeartbeats 1000000 in
theorem lawc_5 (E : LW F G B Y b L xs) (hn : 6 * n + 6 ≤ L) (I : LI n o r ad w D κ σ τ h z) (hc : cs ≤ cB κ n) (hs : ss ≤ sB κ n) (nx : NX F G B Q b o r ad w n) : X F G B Q 8 h z cs ss 453 (lvL b o r w n) [] := by
  have C := E.1
  have hL := E.2.2.2.2.2.2
  have h200 := I.st
  have P := I.1
  have hn5 : n < 512 := by omega
  have hne := I.2.2.2.2.2.2
  have k0 := P.1.1.2.1 0 (by decide) (by decide) (by decide)
  obtain ⟨rr, D', κ', σ', τ', c, s, ef, eg, dk, pr, h3, hc3, hs3⟩ := st_walk P
  obtain ⟨n1, e1⟩ := ef.get
  obtain ⟨n2, e2⟩ := eg.get
  unfold cB at hc
  unfold sB at hs
  obtain ⟨hMo, hv, hk⟩ := LI_cl I dk κ' (z + c)
  have hw : ∃ f, rn D' κ' w = some (.inl (1, 1, .inr (.inl f))) := by rw [hv w (Or.inr (Or.inr rfl))]; exact I.2.2.2.2.1
  have o' : D'.1 0 0 = D.1 0 0 := (dk.1 0 0 k0).1
  have st200 := pr.2.2.2.1.2.2.1.2
  have eo := I.2.2.1
  have eh := I.2.1
  subst eo eh
  refine X_aload_n C dL_law_453 rfl ?_
  have qc : cs + c ≤ 601024 := by omega
  have qs : ss + s ≤ 7293034 := by omega
  refine X_callVa (As := []) (rest := []) C (Ti_walk_c e1) wLa_53 ⟨by decide, by decide⟩ ⟨qc, qs⟩ (rn_at k0) oTi.2.1 rfl rfl (Nat.le_of_ble_eq_true rfl) dL_law_454 ?_
  refine X_aload_n C dL_law_457 rfl ?_
  refine X_callV (As := []) (rest := [.int rr]) (P := mP (r, ad, rn D' κ', (z + c)) (some (.int rr)) σ' τ') C (Mo_walk_c (M := (r, ad, rn D' κ', (z + c))) e2 (rn D' κ') hMo) wLa_56 ⟨by decide, by decide⟩ ⟨qc, qs⟩ hMo.1 oMo.2.1 rfl rfl (Nat.le_of_ble_eq_true rfl) dL_law_458 (fun v2 h2 z2 q2 => ?_)
  obtain ⟨rfl, hM2, rfl⟩ := q2
  refine X_icmp_eq C (tgt := 1375) dL_law_461 (by decide) (fun _ => ?_) (fun t => absurd rfl t)
  exact nx _ κ' σ' τ' h2 _ (cs + c + 0) (ss + s + 0) (LI_fin pr o' hM2 (by rw [LI_w hM2 hne]; exact hw) hk hne (fun _ _ => rfl)) (by unfold cB; omega) (by unfold sB; omega)
set_option maxHeartbeats 1000000 in
theorem lawc_6 (E : LW F G B Y b L xs) (hn : 6 * n + 6 ≤ L) (I : LI n o r ad w D κ σ τ h z) (hc : cs ≤ cB κ n) (hs : ss ≤ sB κ n) (nx : NX F G B Q b o r ad w n) : X F G B Q 8 h z cs ss 466 (lvL b o r w n) [] := by
  have C := E.1
  have hL := E.2.2.2.2.2.2
  have h200 := I.st
  have P := I.1
  have hn5 : n < 512 := by omega
  have hne := I.2.2.2.2.2.2
  have k0 := P.1.1.2.1 0 (by decide) (by decide) (by decide)
  obtain ⟨rr, D', κ', σ', τ', ef, eg, dk, pr, h3⟩ := st_RO P (state_ro P.1 P.2.2.2.1 (xs (6 * n + 1)) (xs (6 * n + 2)))
  obtain ⟨n1, e1⟩ := ef.get
  obtain ⟨n2, e2⟩ := eg.get
  unfold cB at hc
  unfold sB at hs
  obtain ⟨hMo, hv, hk⟩ := LI_cl I dk κ' z
  have hw : ∃ f, rn D' κ' w = some (.inl (1, 1, .inr (.inl f))) := by rw [hv w (Or.inr (Or.inr rfl))]; exact I.2.2.2.2.1
  have o' : D'.1 0 0 = D.1 0 0 := (dk.1 0 0 k0).1
  have st200 := pr.2.2.2.1.2.2.1.2
  have eo := I.2.2.1
  have eh := I.2.1
  subst eo eh
  refine X_aload_n C dL_law_466 rfl ?_
  refine L_arg E (i := 6 * n) (j := 1) rfl rfl (by decide) (by omega) dL_law_467 dL_law_468 dL_law_470 dL_law_471 dL_law_472 ?_
  refine L_arg E (i := 6 * n) (j := 2) rfl rfl (by decide) (by omega) dL_law_473 dL_law_474 dL_law_476 dL_law_477 dL_law_478 ?_
  refine X_callVa (As := [.int (xs (6 * n + 1)), .int (xs (6 * n + 2))]) (rest := []) C (Ti_state_c e1) wLa_57 ⟨by decide, by decide⟩ ⟨by omega, by omega⟩ (rn_at k0) oTi.2.1 rfl rfl (Nat.le_of_ble_eq_true rfl) dL_law_479 ?_
  refine X_aload_n C dL_law_482 rfl ?_
  refine L_arg E (i := 6 * n) (j := 1) rfl rfl (by decide) (by omega) dL_law_483 dL_law_484 dL_law_486 dL_law_487 dL_law_488 ?_
  refine L_arg E (i := 6 * n) (j := 2) rfl rfl (by decide) (by omega) dL_law_489 dL_law_490 dL_law_492 dL_law_493 dL_law_494 ?_
  refine X_callV (As := [.int (xs (6 * n + 1)), .int (xs (6 * n + 2))]) (rest := [.int rr]) (P := mP (r, ad, rn D' κ', z) (some (.int rr)) σ' τ') C (Mo_state_c (M := (r, ad, rn D' κ', z)) e2 (rn D' κ') hMo) wLa_60 ⟨by decide, by decide⟩ ⟨by omega, by omega⟩ hMo.1 oMo.2.1 rfl rfl (Nat.le_of_ble_eq_true rfl) dL_law_495 (fun v2 h2 z2 q2 => ?_)
  obtain ⟨rfl, hM2, rfl⟩ := q2
  refine X_icmp_eq C (tgt := 1375) dL_law_498 (by decide) (fun _ => ?_) (fun t => absurd rfl t)
  exact nx _ κ' σ' τ' h2 _ (cs + 0 + 0) (ss + 0 + 0) (LI_fin pr o' hM2 (by rw [LI_w hM2 hne]; exact hw) hk hne (fun _ _ => rfl)) (by unfold cB; omega) (by unfold sB; omega)
set_option maxHeartbeats 1000000 in
theorem lawc_7 (E : LW F G B Y b L xs) (hn : 6 * n + 6 ≤ L) (I : LI n o r ad w D κ σ τ h z) (hc : cs ≤ cB κ n) (hs : ss ≤ sB κ n) (nx : NX F G B Q b o r ad w n) : X F G B Q 8 h z cs ss 503 (lvL b o r w n) [] := by
  have C := E.1
  have hL := E.2.2.2.2.2.2
  have h200 := I.st
  have P := I.1
  have hn5 : n < 512 := by omega
  have hne := I.2.2.2.2.2.2
  have k0 := P.1.1.2.1 0 (by decide) (by decide) (by decide)
  obtain ⟨vv, cd, bb, ef, eg, hcd, hvb, pr⟩ := st_RT P (bound_rt P.1 P.2.2.2.1 (xs (6 * n + 1)) (xs (6 * n + 2)) (xs (6 * n + 3)))
  obtain ⟨n1, e1⟩ := ef.get
  obtain ⟨n2, e2⟩ := eg.get
  unfold cB at hc
  unfold sB at hs
  have hM := I.2.2.2.1
  have hw := I.2.2.2.2.1
  have hk := I.2.2.2.2.2.1
  have eo := I.2.2.1
  have eh := I.2.1
  subst eo eh
  obtain ⟨H, f, eL, hH, hf, hf0⟩ := L_bound_ev k0 hw e1
  refine X_aload_n C dL_law_503 rfl ?_
  refine L_arg E (i := 6 * n) (j := 1) rfl rfl (by decide) (by omega) dL_law_504 dL_law_505 dL_law_507 dL_law_508 dL_law_509 ?_
  refine L_arg E (i := 6 * n) (j := 2) rfl rfl (by decide) (by omega) dL_law_510 dL_law_511 dL_law_513 dL_law_514 dL_law_515 ?_
  refine L_arg E (i := 6 * n) (j := 3) rfl rfl (by decide) (by omega) dL_law_516 dL_law_517 dL_law_519 dL_law_520 dL_law_521 ?_
  refine X_aload_n C dL_law_522 rfl ?_
  refine X_callSw (As := [.ref (D.1 0 0), .int (xs (6 * n + 1)), .int (xs (6 * n + 2)), .int (xs (6 * n + 3)), .ref w]) (rest := []) C E.2.1 (L_bound_c E.2.2.2.2.2.1 eL) wLa_61 ⟨by decide, by decide⟩ ⟨by omega, by omega⟩ rfl rfl (Nat.le_of_ble_eq_true rfl) dL_law_523 (fun v1 h1 z1 q1 => ?_)
  obtain ⟨rfl, eh1, hz⟩ := q1
  have eh2 : H = h1 := eh1.symm
  subst eh2
  have hMo := Mo_w (z' := z1) hM hH hne
  refine X_istore (lv' := [(5, .int (J cd)), (0, .ref b), (1, .ref (D.1 0 0)), (2, .ref r), (3, .ref w), (4, .int (J (6 * n)))]) C dL_law_526 (by decide) rfl ?_
  refine X_aload_n C dL_law_528 rfl ?_
  refine L_arg E (i := 6 * n) (j := 1) rfl rfl (by decide) (by omega) dL_law_529 dL_law_530 dL_law_532 dL_law_533 dL_law_534 ?_
  refine L_arg E (i := 6 * n) (j := 2) rfl rfl (by decide) (by omega) dL_law_535 dL_law_536 dL_law_538 dL_law_539 dL_law_540 ?_
  refine L_arg E (i := 6 * n) (j := 3) rfl rfl (by decide) (by omega) dL_law_541 dL_law_542 dL_law_544 dL_law_545 dL_law_546 ?_
  refine X_callV (As := [.int (xs (6 * n + 1)), .int (xs (6 * n + 2)), .int (xs (6 * n + 3))]) (rest := []) (P := mP (r, ad, H, z1) (some (.int bb)) (su σ 0 0 (J cd)) τ) C (Mo_bound_c (M := (r, ad, H, z1)) e2 H hMo) wLa_66 ⟨by decide, by decide⟩ ⟨by omega, by omega⟩ hMo.1 oMo.2.1 rfl rfl (Nat.le_of_ble_eq_true rfl) dL_law_547 (fun v2 h2 z2 q2 => ?_)
  obtain ⟨rfl, hM2, ez2⟩ := q2
  have ez2b : z1 = z2 := ez2.symm
  subst ez2b
  refine X_istore (lv' := [(6, .int bb), (5, .int (J cd)), (0, .ref b), (1, .ref (D.1 0 0)), (2, .ref r), (3, .ref w), (4, .int (J (6 * n)))]) C dL_law_550 (by decide) rfl ?_
  refine X_aload_n C dL_law_552 rfl ?_
  refine X_callV (As := []) (rest := []) (P := mP (r, ad, H, z1) (some (.int (su σ 0 0 (J cd) 0 0))) (su σ 0 0 (J cd)) τ) C (Mo_thrown_c (n := 0) (M := (r, ad, H, z1)) (R := (su σ 0 0 (J cd) 0 0, su σ 0 0 (J cd), τ)) rfl h2 hM2) wLa_67 ⟨by decide, by decide⟩ ⟨by omega, by omega⟩ hM2.1 oMo.2.1 rfl rfl (Nat.le_of_ble_eq_true rfl) dL_law_553 (fun v3 h3 z3 q3 => ?_)
  obtain ⟨rfl, hM3, ez3⟩ := q3
  have ez3b : z1 = z3 := ez3.symm
  subst ez3b
  refine X_iload C dL_law_556 rfl ?_
  refine X_icmp_eq C (tgt := 563) dL_law_558 (by decide) (fun _ => ?_) (fun t => absurd (su_e _ _ _ _) t)
  have hw3 : h3 w = some (.inl (1, 1, .inr (.inl f))) := by rw [LI_w hM3 hne]; exact hf
  have fin : X F G B Q 8 h3 z1 (cs + 1 + 0 + 0) (ss + 6 + 0 + 0) 1375 [(6, .int bb), (5, .int (J cd)), (0, .ref b), (1, .ref (D.1 0 0)), (2, .ref r), (3, .ref w), (4, .int (J (6 * n)))] [] := X_sub (lv' := lvL b (D.1 0 0) r w n) [2, 3, 4, 5, 6] rfl (nx _ κ (su σ 0 0 (J cd)) τ h3 z1 (cs + 1 + 0 + 0) (ss + 6 + 0 + 0) (LI_fin (PR_z pr hz) rfl hM3 ⟨f, hw3⟩ hk hne (fun a na => hH a (fun t => na (Or.inr (Or.inr t))))) (by unfold cB; omega) (by unfold sB; omega))
  refine X_iload C dL_law_563 rfl ?_
  refine X_if_ne C (tgt := 580) dL_law_565 (by decide) (fun _ => ?_) (fun t0 => ?_)
  · exact X_goto C (tgt := 1375) dL_law_580 (by decide) fin
  · have c0 : cd = 0 := by
      have t1 : J cd = J 0 := t0
      rw [J_eq (by omega) (by omega)] at t1
      exact t1
    refine X_aload_n C dL_law_568 rfl ?_
    refine X_iconst C (v := 0) dL_law_569 (by decide) ?_
    refine X_lald C (f := f) rfl hw3 (vp_J (k := 0) (by decide) (by decide)) dL_law_570 ?_
    refine X_iload C dL_law_571 rfl ?_
    refine X_i2l C dL_law_573 ?_
    refine X_lcmp C dL_law_574 ?_
    have ef0 : f (Int32.toNatClampNeg 0) = (Int32.toInt64 bb) := by
      rw [show Int32.toNatClampNeg 0 = 0 from rfl, hf0 c0, hvb c0]
    have ez : lg_cmp (f (Int32.toNatClampNeg 0)) (Int32.toInt64 bb) = 0 := by
      rw [ef0]
      exact lgc_e _
    refine X_if_eq C (tgt := 580) dL_law_575 (by decide) (fun _ => ?_) (fun t => absurd ez t)
    exact X_goto C (tgt := 1375) dL_law_580 (by decide) fin
set_option maxHeartbeats 1000000 in
theorem lawc_8 (E : LW F G B Y b L xs) (hn : 6 * n + 6 ≤ L) (I : LI n o r ad w D κ σ τ h z) (hc : cs ≤ cB κ n) (hs : ss ≤ sB κ n) (nx : NX F G B Q b o r ad w n) : X F G B Q 8 h z cs ss 583 (lvL b o r w n) [] := by
  have C := E.1
  have hL := E.2.2.2.2.2.2
  have h200 := I.st
  have P := I.1
  have hn5 : n < 512 := by omega
  have hne := I.2.2.2.2.2.2
  have k0 := P.1.1.2.1 0 (by decide) (by decide) (by decide)
  obtain ⟨rr, D', κ', σ', τ', ef, eg, dk, pr, h3⟩ := st_RO P (seen_ro P.1 P.2.2.2.1 (xs (6 * n + 1)) (xs (6 * n + 2)) (xs (6 * n + 3)))
  obtain ⟨n1, e1⟩ := ef.get
  obtain ⟨n2, e2⟩ := eg.get
  unfold cB at hc
  unfold sB at hs
  obtain ⟨hMo, hv, hk⟩ := LI_cl I dk κ' z
  have hw : ∃ f, rn D' κ' w = some (.inl (1, 1, .inr (.inl f))) := by rw [hv w (Or.inr (Or.inr rfl))]; exact I.2.2.2.2.1
  have o' : D'.1 0 0 = D.1 0 0 := (dk.1 0 0 k0).1
  have st200 := pr.2.2.2.1.2.2.1.2
  have eo := I.2.2.1
  have eh := I.2.1
  subst eo eh
  refine X_aload_n C dL_law_583 rfl ?_
  refine L_arg E (i := 6 * n) (j := 1) rfl rfl (by decide) (by omega) dL_law_584 dL_law_585 dL_law_587 dL_law_588 dL_law_589 ?_
  refine L_arg E (i := 6 * n) (j := 2) rfl rfl (by decide) (by omega) dL_law_590 dL_law_591 dL_law_593 dL_law_594 dL_law_595 ?_
  refine L_arg E (i := 6 * n) (j := 3) rfl rfl (by decide) (by omega) dL_law_596 dL_law_597 dL_law_599 dL_law_600 dL_law_601 ?_
  refine X_callVa (As := [.int (xs (6 * n + 1)), .int (xs (6 * n + 2)), .int (xs (6 * n + 3))]) (rest := []) C (Ti_seen_c e1) wLa_70 ⟨by decide, by decide⟩ ⟨by omega, by omega⟩ (rn_at k0) oTi.2.1 rfl rfl (Nat.le_of_ble_eq_true rfl) dL_law_602 ?_
  refine X_aload_n C dL_law_605 rfl ?_
  refine L_arg E (i := 6 * n) (j := 1) rfl rfl (by decide) (by omega) dL_law_606 dL_law_607 dL_law_609 dL_law_610 dL_law_611 ?_
  refine L_arg E (i := 6 * n) (j := 2) rfl rfl (by decide) (by omega) dL_law_612 dL_law_613 dL_law_615 dL_law_616 dL_law_617 ?_
  refine L_arg E (i := 6 * n) (j := 3) rfl rfl (by decide) (by omega) dL_law_618 dL_law_619 dL_law_621 dL_law_622 dL_law_623 ?_
  refine X_callV (As := [.int (xs (6 * n + 1)), .int (xs (6 * n + 2)), .int (xs (6 * n + 3))]) (rest := [.int rr]) (P := mP (r, ad, rn D' κ', z) (some (.int rr)) σ' τ') C (Mo_seen_c (M := (r, ad, rn D' κ', z)) e2 (rn D' κ') hMo) wLa_73 ⟨by decide, by decide⟩ ⟨by omega, by omega⟩ hMo.1 oMo.2.1 rfl rfl (Nat.le_of_ble_eq_true rfl) dL_law_624 (fun v2 h2 z2 q2 => ?_)
  obtain ⟨rfl, hM2, rfl⟩ := q2
  refine X_icmp_eq C (tgt := 1375) dL_law_627 (by decide) (fun _ => ?_) (fun t => absurd rfl t)
  exact nx _ κ' σ' τ' h2 _ (cs + 0 + 0) (ss + 0 + 0) (LI_fin pr o' hM2 (by rw [LI_w hM2 hne]; exact hw) hk hne (fun _ _ => rfl)) (by unfold cB; omega) (by unfold sB; omega)
set_option maxHeartbeats 1000000 in
theorem lawc_9 (E : LW F G B Y b L xs) (hn : 6 * n + 6 ≤ L) (I : LI n o r ad w D κ σ τ h z) (hc : cs ≤ cB κ n) (hs : ss ≤ sB κ n) (nx : NX F G B Q b o r ad w n) : X F G B Q 8 h z cs ss 632 (lvL b o r w n) [] := by
  have C := E.1
  have hL := E.2.2.2.2.2.2
  have h200 := I.st
  have P := I.1
  have hn5 : n < 512 := by omega
  have hne := I.2.2.2.2.2.2
  have k0 := P.1.1.2.1 0 (by decide) (by decide) (by decide)
  obtain ⟨rr, D', κ', σ', τ', ef, eg, dk, pr, h3⟩ := st_RO P (lead_ro P.1 P.2.2.2.1 (xs (6 * n + 1)) (xs (6 * n + 2)) (xs (6 * n + 3)))
  obtain ⟨n1, e1⟩ := ef.get
  obtain ⟨n2, e2⟩ := eg.get
  unfold cB at hc
  unfold sB at hs
  obtain ⟨hMo, hv, hk⟩ := LI_cl I dk κ' z
  have hw : ∃ f, rn D' κ' w = some (.inl (1, 1, .inr (.inl f))) := by rw [hv w (Or.inr (Or.inr rfl))]; exact I.2.2.2.2.1
  have o' : D'.1 0 0 = D.1 0 0 := (dk.1 0 0 k0).1
  have st200 := pr.2.2.2.1.2.2.1.2
  have eo := I.2.2.1
  have eh := I.2.1
  subst eo eh
  refine X_aload_n C dL_law_632 rfl ?_
  refine L_arg E (i := 6 * n) (j := 1) rfl rfl (by decide) (by omega) dL_law_633 dL_law_634 dL_law_636 dL_law_637 dL_law_638 ?_
  refine L_arg E (i := 6 * n) (j := 2) rfl rfl (by decide) (by omega) dL_law_639 dL_law_640 dL_law_642 dL_law_643 dL_law_644 ?_
  refine L_arg E (i := 6 * n) (j := 3) rfl rfl (by decide) (by omega) dL_law_645 dL_law_646 dL_law_648 dL_law_649 dL_law_650 ?_
  refine X_callVa (As := [.int (xs (6 * n + 1)), .int (xs (6 * n + 2)), .int (xs (6 * n + 3))]) (rest := []) C (Ti_lead_c e1) wLa_74 ⟨by decide, by decide⟩ ⟨by omega, by omega⟩ (rn_at k0) oTi.2.1 rfl rfl (Nat.le_of_ble_eq_true rfl) dL_law_651 ?_
  refine X_aload_n C dL_law_654 rfl ?_
  refine L_arg E (i := 6 * n) (j := 1) rfl rfl (by decide) (by omega) dL_law_655 dL_law_656 dL_law_658 dL_law_659 dL_law_660 ?_
  refine L_arg E (i := 6 * n) (j := 2) rfl rfl (by decide) (by omega) dL_law_661 dL_law_662 dL_law_664 dL_law_665 dL_law_666 ?_
  refine L_arg E (i := 6 * n) (j := 3) rfl rfl (by decide) (by omega) dL_law_667 dL_law_668 dL_law_670 dL_law_671 dL_law_672 ?_
  refine X_callV (As := [.int (xs (6 * n + 1)), .int (xs (6 * n + 2)), .int (xs (6 * n + 3))]) (rest := [.int rr]) (P := mP (r, ad, rn D' κ', z) (some (.int rr)) σ' τ') C (Mo_lead_c (M := (r, ad, rn D' κ', z)) e2 (rn D' κ') hMo) wLa_77 ⟨by decide, by decide⟩ ⟨by omega, by omega⟩ hMo.1 oMo.2.1 rfl rfl (Nat.le_of_ble_eq_true rfl) dL_law_673 (fun v2 h2 z2 q2 => ?_)
  obtain ⟨rfl, hM2, rfl⟩ := q2
  refine X_icmp_eq C (tgt := 1375) dL_law_676 (by decide) (fun _ => ?_) (fun t => absurd rfl t)
  exact nx _ κ' σ' τ' h2 _ (cs + 0 + 0) (ss + 0 + 0) (LI_fin pr o' hM2 (by rw [LI_w hM2 hne]; exact hw) hk hne (fun _ _ => rfl)) (by unfold cB; omega) (by unfold sB; omega)
set_option maxHeartbeats 1000000 in
theorem lawc_10 (E : LW F G B Y b L xs) (hn : 6 * n + 6 ≤ L) (I : LI n o r ad w D κ σ τ h z) (hc : cs ≤ cB κ n) (hs : ss ≤ sB κ n) (nx : NX F G B Q b o r ad w n) : X F G B Q 8 h z cs ss 681 (lvL b o r w n) [] := by
  have C := E.1
  have hL := E.2.2.2.2.2.2
  have h200 := I.st
  have P := I.1
  have hn5 : n < 512 := by omega
  have hne := I.2.2.2.2.2.2
  have k0 := P.1.1.2.1 0 (by decide) (by decide) (by decide)
  obtain ⟨rr, D', κ', σ', τ', ef, eg, dk, pr, h3⟩ := st_RO P (soonest_ro P.1 P.2.2.2.1 (xs (6 * n + 1)))
  obtain ⟨n1, e1⟩ := ef.get
  obtain ⟨n2, e2⟩ := eg.get
  unfold cB at hc
  unfold sB at hs
  obtain ⟨hMo, hv, hk⟩ := LI_cl I dk κ' z
  have hw : ∃ f, rn D' κ' w = some (.inl (1, 1, .inr (.inl f))) := by rw [hv w (Or.inr (Or.inr rfl))]; exact I.2.2.2.2.1
  have o' : D'.1 0 0 = D.1 0 0 := (dk.1 0 0 k0).1
  have st200 := pr.2.2.2.1.2.2.1.2
  have eo := I.2.2.1
  have eh := I.2.1
  subst eo eh
  refine X_aload_n C dL_law_681 rfl ?_
  refine L_arg E (i := 6 * n) (j := 1) rfl rfl (by decide) (by omega) dL_law_682 dL_law_683 dL_law_685 dL_law_686 dL_law_687 ?_
  refine X_callVa (As := [.int (xs (6 * n + 1))]) (rest := []) C (Ti_soonest_c e1) wLa_78 ⟨by decide, by decide⟩ ⟨by omega, by omega⟩ (rn_at k0) oTi.2.1 rfl rfl (Nat.le_of_ble_eq_true rfl) dL_law_688 ?_
  refine X_aload_n C dL_law_691 rfl ?_
  refine L_arg E (i := 6 * n) (j := 1) rfl rfl (by decide) (by omega) dL_law_692 dL_law_693 dL_law_695 dL_law_696 dL_law_697 ?_
  refine X_callV (As := [.int (xs (6 * n + 1))]) (rest := [.int rr]) (P := mP (r, ad, rn D' κ', z) (some (.int rr)) σ' τ') C (Mo_soonest_c (M := (r, ad, rn D' κ', z)) e2 (rn D' κ') hMo) wLa_81 ⟨by decide, by decide⟩ ⟨by omega, by omega⟩ hMo.1 oMo.2.1 rfl rfl (Nat.le_of_ble_eq_true rfl) dL_law_698 (fun v2 h2 z2 q2 => ?_)
  obtain ⟨rfl, hM2, rfl⟩ := q2
  refine X_icmp_eq C (tgt := 1375) dL_law_701 (by decide) (fun _ => ?_) (fun t => absurd rfl t)
  exact nx _ κ' σ' τ' h2 _ (cs + 0 + 0) (ss + 0 + 0) (LI_fin pr o' hM2 (by rw [LI_w hM2 hne]; exact hw) hk hne (fun _ _ => rfl)) (by unfold cB; omega) (by unfold sB; omega)
set_option maxHeartbeats 1000000 in
theorem lawc_11 (E : LW F G B Y b L xs) (hn : 6 * n + 6 ≤ L) (I : LI n o r ad w D κ σ τ h z) (hc : cs ≤ cB κ n) (hs : ss ≤ sB κ n) (nx : NX F G B Q b o r ad w n) : X F G B Q 8 h z cs ss 706 (lvL b o r w n) [] := by
  have C := E.1
  have hL := E.2.2.2.2.2.2
  have h200 := I.st
  have P := I.1
  have hn5 : n < 512 := by omega
  have hne := I.2.2.2.2.2.2
  have k0 := P.1.1.2.1 0 (by decide) (by decide) (by decide)
  obtain ⟨rr, D', κ', σ', τ', ef, eg, dk, pr, h3⟩ := st_RO P (stuck_ro P.1 P.2.2.2.1 (xs (6 * n + 1)))
  obtain ⟨n1, e1⟩ := ef.get
  obtain ⟨n2, e2⟩ := eg.get
  unfold cB at hc
  unfold sB at hs
  obtain ⟨hMo, hv, hk⟩ := LI_cl I dk κ' z
  have hw : ∃ f, rn D' κ' w = some (.inl (1, 1, .inr (.inl f))) := by rw [hv w (Or.inr (Or.inr rfl))]; exact I.2.2.2.2.1
  have o' : D'.1 0 0 = D.1 0 0 := (dk.1 0 0 k0).1
  have st200 := pr.2.2.2.1.2.2.1.2
  have eo := I.2.2.1
  have eh := I.2.1
  subst eo eh
  refine X_aload_n C dL_law_706 rfl ?_
  refine L_arg E (i := 6 * n) (j := 1) rfl rfl (by decide) (by omega) dL_law_707 dL_law_708 dL_law_710 dL_law_711 dL_law_712 ?_
  refine X_callVa (As := [.int (xs (6 * n + 1))]) (rest := []) C (Ti_stuck_c e1) wLa_82 ⟨by decide, by decide⟩ ⟨by omega, by omega⟩ (rn_at k0) oTi.2.1 rfl rfl (Nat.le_of_ble_eq_true rfl) dL_law_713 ?_
  refine X_aload_n C dL_law_716 rfl ?_
  refine L_arg E (i := 6 * n) (j := 1) rfl rfl (by decide) (by omega) dL_law_717 dL_law_718 dL_law_720 dL_law_721 dL_law_722 ?_
  refine X_callV (As := [.int (xs (6 * n + 1))]) (rest := [.int rr]) (P := mP (r, ad, rn D' κ', z) (some (.int rr)) σ' τ') C (Mo_stuck_c (M := (r, ad, rn D' κ', z)) e2 (rn D' κ') hMo) wLa_85 ⟨by decide, by decide⟩ ⟨by omega, by omega⟩ hMo.1 oMo.2.1 rfl rfl (Nat.le_of_ble_eq_true rfl) dL_law_723 (fun v2 h2 z2 q2 => ?_)
  obtain ⟨rfl, hM2, rfl⟩ := q2
  refine X_icmp_eq C (tgt := 1375) dL_law_726 (by decide) (fun _ => ?_) (fun t => absurd rfl t)
  exact nx _ κ' σ' τ' h2 _ (cs + 0 + 0) (ss + 0 + 0) (LI_fin pr o' hM2 (by rw [LI_w hM2 hne]; exact hw) hk hne (fun _ _ => rfl)) (by unfold cB; omega) (by unfold sB; omega)
set_option maxHeartbeats 1000000 in
theorem lawc_12 (E : LW F G B Y b L xs) (hn : 6 * n + 6 ≤ L) (I : LI n o r ad w D κ σ τ h z) (hc : cs ≤ cB κ n) (hs : ss ≤ sB κ n) (nx : NX F G B Q b o r ad w n) : X F G B Q 8 h z cs ss 731 (lvL b o r w n) [] := by
  have C := E.1
  have hL := E.2.2.2.2.2.2
  have h200 := I.st
  have P := I.1
  have hn5 : n < 512 := by omega
  have hne := I.2.2.2.2.2.2
  have k0 := P.1.1.2.1 0 (by decide) (by decide) (by decide)
  obtain ⟨rr, D', κ', σ', τ', ef, eg, dk, pr, h3⟩ := st_HC P (hand_h P.1 P.2.2.2.1 P.2.2.2.2.1 P.2.2.2.2.2.1 (xs (6 * n + 1)) (xs (6 * n + 2)))
  obtain ⟨n1, e1⟩ := ef.get
  obtain ⟨n2, e2⟩ := eg.get
  unfold cB at hc
  unfold sB at hs
  obtain ⟨hMo, hv, hk⟩ := LI_cl I dk κ' z
  have hw : ∃ f, rn D' κ' w = some (.inl (1, 1, .inr (.inl f))) := by rw [hv w (Or.inr (Or.inr rfl))]; exact I.2.2.2.2.1
  have o' : D'.1 0 0 = D.1 0 0 := (dk.1 0 0 k0).1
  have st200 := pr.2.2.2.1.2.2.1.2
  have eo := I.2.2.1
  have eh := I.2.1
  subst eo eh
  refine X_aload_n C dL_law_731 rfl ?_
  refine L_arg E (i := 6 * n) (j := 1) rfl rfl (by decide) (by omega) dL_law_732 dL_law_733 dL_law_735 dL_law_736 dL_law_737 ?_
  refine L_arg E (i := 6 * n) (j := 2) rfl rfl (by decide) (by omega) dL_law_738 dL_law_739 dL_law_741 dL_law_742 dL_law_743 ?_
  refine X_callVa (As := [.int (xs (6 * n + 1)), .int (xs (6 * n + 2))]) (rest := []) C (Ti_hand_c e1) wLa_86 ⟨by decide, by decide⟩ ⟨by omega, by omega⟩ (rn_at k0) oTi.2.1 rfl rfl (Nat.le_of_ble_eq_true rfl) dL_law_744 ?_
  refine X_aload_n C dL_law_747 rfl ?_
  refine L_arg E (i := 6 * n) (j := 1) rfl rfl (by decide) (by omega) dL_law_748 dL_law_749 dL_law_751 dL_law_752 dL_law_753 ?_
  refine L_arg E (i := 6 * n) (j := 2) rfl rfl (by decide) (by omega) dL_law_754 dL_law_755 dL_law_757 dL_law_758 dL_law_759 ?_
  refine X_callV (As := [.int (xs (6 * n + 1)), .int (xs (6 * n + 2))]) (rest := [.int rr]) (P := mP (r, ad, rn D' κ', z) (some (.int rr)) σ' τ') C (Mo_hand_c (M := (r, ad, rn D' κ', z)) e2 (rn D' κ') hMo) wLa_89 ⟨by decide, by decide⟩ ⟨by omega, by omega⟩ hMo.1 oMo.2.1 rfl rfl (Nat.le_of_ble_eq_true rfl) dL_law_760 (fun v2 h2 z2 q2 => ?_)
  obtain ⟨rfl, hM2, rfl⟩ := q2
  refine X_icmp_eq C (tgt := 1375) dL_law_763 (by decide) (fun _ => ?_) (fun t => absurd rfl t)
  exact nx _ κ' σ' τ' h2 _ (cs + 0 + 0) (ss + 0 + 0) (LI_fin pr o' hM2 (by rw [LI_w hM2 hne]; exact hw) hk hne (fun _ _ => rfl)) (by unfold cB; omega) (by unfold sB; omega)
end LC1
