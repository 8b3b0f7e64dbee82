/-! THE LAW: cases 13 to 19 -/
section LC2
variable {F : xF} {G : xG} {B : Nat} {Y : Nat → Nat} {b L : Nat} {xs : Nat → Int32} {Q : State → Prop} {n o r w z cs ss : Nat} {ad : Nat → Nat} {D : kD} {κ : kS} {σ : mS} {τ : mL} {h : xH}
set_option maxHeartbeats 1000000 in
theorem lawc_13 (E : LW F G B Y b L xs) (hn : 6 * n + 6 ≤ L) (I : LI n o r ad w D κ σ τ h z) (hc : cs ≤ cB κ n) (hs : ss ≤ sB κ n) (nx : NX F G B Q b o r ad w n) : X F G B Q 8 h z cs ss 768 (lvL b o r w n) [] := by
  have C := E.1
  have hL := E.2.2.2.2.2.2
  have h200 := I.st
  have P := I.1
  have hn5 : n < 512 := by omega
  have hne := I.2.2.2.2.2.2
  have k0 := P.1.1.2.1 0 (by decide) (by decide) (by decide)
  obtain ⟨rr, D', κ', σ', τ', ef, eg, dk, pr, h3⟩ := st_HC P (tighten_h hn5 P.1 P.2.2.2.2.1 (xs (6 * n + 1)) (xs (6 * n + 2)) (xs (6 * n + 3)) (bo (xs (6 * n + 4))) (bo_or _))
  obtain ⟨n1, e1⟩ := ef.get
  obtain ⟨n2, e2⟩ := eg.get
  unfold cB at hc
  unfold sB at hs
  obtain ⟨hMo, hv, hk⟩ := LI_cl I dk κ' z
  have hw : ∃ f, rn D' κ' w = some (.inl (1, 1, .inr (.inl f))) := by rw [hv w (Or.inr (Or.inr rfl))]; exact I.2.2.2.2.1
  have o' : D'.1 0 0 = D.1 0 0 := (dk.1 0 0 k0).1
  have st200 := pr.2.2.2.1.2.2.1.2
  have eo := I.2.2.1
  have eh := I.2.1
  subst eo eh
  refine X_aload_n C dL_law_768 rfl ?_
  refine L_arg E (i := 6 * n) (j := 1) rfl rfl (by decide) (by omega) dL_law_769 dL_law_770 dL_law_772 dL_law_773 dL_law_774 ?_
  refine L_arg E (i := 6 * n) (j := 2) rfl rfl (by decide) (by omega) dL_law_775 dL_law_776 dL_law_778 dL_law_779 dL_law_780 ?_
  refine L_arg E (i := 6 * n) (j := 3) rfl rfl (by decide) (by omega) dL_law_781 dL_law_782 dL_law_784 dL_law_785 dL_law_786 ?_
  refine L_arg E (i := 6 * n) (j := 4) rfl rfl (by decide) (by omega) dL_law_787 dL_law_788 dL_law_790 dL_law_791 dL_law_792 ?_
  refine L_bool E dL_law_793 dL_law_796 dL_law_797 dL_law_800 ?_
  refine X_callVa (As := [.int (xs (6 * n + 1)), .int (xs (6 * n + 2)), .int (xs (6 * n + 3)), .int (bo (xs (6 * n + 4)))]) (rest := []) C (Ti_tighten_c e1) wLa_90 ⟨by decide, by decide⟩ ⟨by omega, by omega⟩ (rn_at k0) oTi.2.1 rfl rfl (Nat.le_of_ble_eq_true rfl) dL_law_801 ?_
  refine X_aload_n C dL_law_804 rfl ?_
  refine L_arg E (i := 6 * n) (j := 1) rfl rfl (by decide) (by omega) dL_law_805 dL_law_806 dL_law_808 dL_law_809 dL_law_810 ?_
  refine L_arg E (i := 6 * n) (j := 2) rfl rfl (by decide) (by omega) dL_law_811 dL_law_812 dL_law_814 dL_law_815 dL_law_816 ?_
  refine L_arg E (i := 6 * n) (j := 3) rfl rfl (by decide) (by omega) dL_law_817 dL_law_818 dL_law_820 dL_law_821 dL_law_822 ?_
  refine L_arg E (i := 6 * n) (j := 4) rfl rfl (by decide) (by omega) dL_law_823 dL_law_824 dL_law_826 dL_law_827 dL_law_828 ?_
  refine L_bool E dL_law_829 dL_law_832 dL_law_833 dL_law_836 ?_
  refine X_callV (As := [.int (xs (6 * n + 1)), .int (xs (6 * n + 2)), .int (xs (6 * n + 3)), .int (bo (xs (6 * n + 4)))]) (rest := [.int rr]) (P := mP (r, ad, rn D' κ', z) (some (.int rr)) σ' τ') C (Mo_tighten_c (M := (r, ad, rn D' κ', z)) e2 (rn D' κ') hMo) wLa_94 ⟨by decide, by decide⟩ ⟨by omega, by omega⟩ hMo.1 oMo.2.1 rfl rfl (Nat.le_of_ble_eq_true rfl) dL_law_837 (fun v2 h2 z2 q2 => ?_)
  obtain ⟨rfl, hM2, rfl⟩ := q2
  refine X_icmp_eq C (tgt := 1375) dL_law_840 (by decide) (fun _ => ?_) (fun t => absurd rfl t)
  exact nx _ κ' σ' τ' h2 _ (cs + 0 + 0) (ss + 0 + 0) (LI_fin pr o' hM2 (by rw [LI_w hM2 hne]; exact hw) hk hne (fun _ _ => rfl)) (by unfold cB; omega) (by unfold sB; omega)
set_option maxHeartbeats 1000000 in
theorem lawc_14 (E : LW F G B Y b L xs) (hn : 6 * n + 6 ≤ L) (I : LI n o r ad w D κ σ τ h z) (hc : cs ≤ cB κ n) (hs : ss ≤ sB κ n) (nx : NX F G B Q b o r ad w n) : X F G B Q 8 h z cs ss 845 (lvL b o r w n) [] := by
  have C := E.1
  have hL := E.2.2.2.2.2.2
  have h200 := I.st
  have P := I.1
  have hn5 : n < 512 := by omega
  have hne := I.2.2.2.2.2.2
  have k0 := P.1.1.2.1 0 (by decide) (by decide) (by decide)
  obtain ⟨rr, D', κ', σ', τ', ef, eg, dk, pr, h3⟩ := st_HC P (pass_h hn5 P.1 P.2.2.2.2.1)
  obtain ⟨n1, e1⟩ := ef.get
  obtain ⟨n2, e2⟩ := eg.get
  unfold cB at hc
  unfold sB at hs
  obtain ⟨hMo, hv, hk⟩ := LI_cl I dk κ' z
  have hw : ∃ f, rn D' κ' w = some (.inl (1, 1, .inr (.inl f))) := by rw [hv w (Or.inr (Or.inr rfl))]; exact I.2.2.2.2.1
  have o' : D'.1 0 0 = D.1 0 0 := (dk.1 0 0 k0).1
  have st200 := pr.2.2.2.1.2.2.1.2
  have eo := I.2.2.1
  have eh := I.2.1
  subst eo eh
  refine X_aload_n C dL_law_845 rfl ?_
  refine X_callVa (As := []) (rest := []) C (Ti_pass_c e1) wLa_95 ⟨by decide, by decide⟩ ⟨by omega, by omega⟩ (rn_at k0) oTi.2.1 rfl rfl (Nat.le_of_ble_eq_true rfl) dL_law_846 ?_
  refine X_aload_n C dL_law_849 rfl ?_
  refine X_callV (As := []) (rest := [.int rr]) (P := mP (r, ad, rn D' κ', z) (some (.int rr)) σ' τ') C (Mo_pass_c (M := (r, ad, rn D' κ', z)) e2 (rn D' κ') hMo) wLa_98 ⟨by decide, by decide⟩ ⟨by omega, by omega⟩ hMo.1 oMo.2.1 rfl rfl (Nat.le_of_ble_eq_true rfl) dL_law_850 (fun v2 h2 z2 q2 => ?_)
  obtain ⟨rfl, hM2, rfl⟩ := q2
  refine X_icmp_eq C (tgt := 1375) dL_law_853 (by decide) (fun _ => ?_) (fun t => absurd rfl t)
  exact nx _ κ' σ' τ' h2 _ (cs + 0 + 0) (ss + 0 + 0) (LI_fin pr o' hM2 (by rw [LI_w hM2 hne]; exact hw) hk hne (fun _ _ => rfl)) (by unfold cB; omega) (by unfold sB; omega)
set_option maxHeartbeats 1000000 in
theorem lawc_15 (E : LW F G B Y b L xs) (hn : 6 * n + 6 ≤ L) (I : LI n o r ad w D κ σ τ h z) (hc : cs ≤ cB κ n) (hs : ss ≤ sB κ n) (nx : NX F G B Q b o r ad w n) : X F G B Q 8 h z cs ss 858 (lvL b o r w n) [] := by
  have C := E.1
  have hL := E.2.2.2.2.2.2
  have h200 := I.st
  have P := I.1
  have hn5 : n < 512 := by omega
  have hne := I.2.2.2.2.2.2
  have k0 := P.1.1.2.1 0 (by decide) (by decide) (by decide)
  obtain ⟨rr, D', κ', σ', τ', ef, eg, dk, pr, h3⟩ := st_HC P (set_h hn5 P.1 P.2.2.2.2.1 (xs (6 * n + 1)))
  obtain ⟨n1, e1⟩ := ef.get
  obtain ⟨n2, e2⟩ := eg.get
  unfold cB at hc
  unfold sB at hs
  obtain ⟨hMo, hv, hk⟩ := LI_cl I dk κ' z
  have hw : ∃ f, rn D' κ' w = some (.inl (1, 1, .inr (.inl f))) := by rw [hv w (Or.inr (Or.inr rfl))]; exact I.2.2.2.2.1
  have o' : D'.1 0 0 = D.1 0 0 := (dk.1 0 0 k0).1
  have st200 := pr.2.2.2.1.2.2.1.2
  have eo := I.2.2.1
  have eh := I.2.1
  subst eo eh
  refine X_aload_n C dL_law_858 rfl ?_
  refine L_arg E (i := 6 * n) (j := 1) rfl rfl (by decide) (by omega) dL_law_859 dL_law_860 dL_law_862 dL_law_863 dL_law_864 ?_
  refine X_callVa (As := [.int (xs (6 * n + 1))]) (rest := []) C (Ti_set_c e1) wLa_99 ⟨by decide, by decide⟩ ⟨by omega, by omega⟩ (rn_at k0) oTi.2.1 rfl rfl (Nat.le_of_ble_eq_true rfl) dL_law_865 ?_
  refine X_aload_n C dL_law_868 rfl ?_
  refine L_arg E (i := 6 * n) (j := 1) rfl rfl (by decide) (by omega) dL_law_869 dL_law_870 dL_law_872 dL_law_873 dL_law_874 ?_
  refine X_callV (As := [.int (xs (6 * n + 1))]) (rest := [.int rr]) (P := mP (r, ad, rn D' κ', z) (some (.int rr)) σ' τ') C (Mo_set_c (M := (r, ad, rn D' κ', z)) e2 (rn D' κ') hMo) wLa_102 ⟨by decide, by decide⟩ ⟨by omega, by omega⟩ hMo.1 oMo.2.1 rfl rfl (Nat.le_of_ble_eq_true rfl) dL_law_875 (fun v2 h2 z2 q2 => ?_)
  obtain ⟨rfl, hM2, rfl⟩ := q2
  refine X_icmp_eq C (tgt := 1375) dL_law_878 (by decide) (fun _ => ?_) (fun t => absurd rfl t)
  exact nx _ κ' σ' τ' h2 _ (cs + 0 + 0) (ss + 0 + 0) (LI_fin pr o' hM2 (by rw [LI_w hM2 hne]; exact hw) hk hne (fun _ _ => rfl)) (by unfold cB; omega) (by unfold sB; omega)
set_option maxHeartbeats 1000000 in
theorem lawc_16 (E : LW F G B Y b L xs) (hn : 6 * n + 6 ≤ L) (I : LI n o r ad w D κ σ τ h z) (hc : cs ≤ cB κ n) (hs : ss ≤ sB κ n) (nx : NX F G B Q b o r ad w n) : X F G B Q 8 h z cs ss 883 (lvL b o r w n) [] := by
  have C := E.1
  have hL := E.2.2.2.2.2.2
  have h200 := I.st
  have P := I.1
  have hn5 : n < 512 := by omega
  have hne := I.2.2.2.2.2.2
  have k0 := P.1.1.2.1 0 (by decide) (by decide) (by decide)
  obtain ⟨rr, D', κ', σ', τ', ef, eg, dk, pr, h3⟩ := st_HC P (letGo_h hn5 P.1 P.2.2.2.2.1 (xs (6 * n + 1)) (xs (6 * n + 2)) (xs (6 * n + 3)))
  obtain ⟨n1, e1⟩ := ef.get
  obtain ⟨n2, e2⟩ := eg.get
  unfold cB at hc
  unfold sB at hs
  obtain ⟨hMo, hv, hk⟩ := LI_cl I dk κ' z
  have hw : ∃ f, rn D' κ' w = some (.inl (1, 1, .inr (.inl f))) := by rw [hv w (Or.inr (Or.inr rfl))]; exact I.2.2.2.2.1
  have o' : D'.1 0 0 = D.1 0 0 := (dk.1 0 0 k0).1
  have st200 := pr.2.2.2.1.2.2.1.2
  have eo := I.2.2.1
  have eh := I.2.1
  subst eo eh
  refine X_aload_n C dL_law_883 rfl ?_
  refine L_arg E (i := 6 * n) (j := 1) rfl rfl (by decide) (by omega) dL_law_884 dL_law_885 dL_law_887 dL_law_888 dL_law_889 ?_
  refine L_arg E (i := 6 * n) (j := 2) rfl rfl (by decide) (by omega) dL_law_890 dL_law_891 dL_law_893 dL_law_894 dL_law_895 ?_
  refine L_arg E (i := 6 * n) (j := 3) rfl rfl (by decide) (by omega) dL_law_896 dL_law_897 dL_law_899 dL_law_900 dL_law_901 ?_
  refine X_callVa (As := [.int (xs (6 * n + 1)), .int (xs (6 * n + 2)), .int (xs (6 * n + 3))]) (rest := []) C (Ti_letGo_c e1) wLa_103 ⟨by decide, by decide⟩ ⟨by omega, by omega⟩ (rn_at k0) oTi.2.1 rfl rfl (Nat.le_of_ble_eq_true rfl) dL_law_902 ?_
  refine X_aload_n C dL_law_905 rfl ?_
  refine L_arg E (i := 6 * n) (j := 1) rfl rfl (by decide) (by omega) dL_law_906 dL_law_907 dL_law_909 dL_law_910 dL_law_911 ?_
  refine L_arg E (i := 6 * n) (j := 2) rfl rfl (by decide) (by omega) dL_law_912 dL_law_913 dL_law_915 dL_law_916 dL_law_917 ?_
  refine L_arg E (i := 6 * n) (j := 3) rfl rfl (by decide) (by omega) dL_law_918 dL_law_919 dL_law_921 dL_law_922 dL_law_923 ?_
  refine X_callV (As := [.int (xs (6 * n + 1)), .int (xs (6 * n + 2)), .int (xs (6 * n + 3))]) (rest := [.int rr]) (P := mP (r, ad, rn D' κ', z) (some (.int rr)) σ' τ') C (Mo_letGo_c (M := (r, ad, rn D' κ', z)) e2 (rn D' κ') hMo) wLa_106 ⟨by decide, by decide⟩ ⟨by omega, by omega⟩ hMo.1 oMo.2.1 rfl rfl (Nat.le_of_ble_eq_true rfl) dL_law_924 (fun v2 h2 z2 q2 => ?_)
  obtain ⟨rfl, hM2, rfl⟩ := q2
  refine X_icmp_eq C (tgt := 1375) dL_law_927 (by decide) (fun _ => ?_) (fun t => absurd rfl t)
  exact nx _ κ' σ' τ' h2 _ (cs + 0 + 0) (ss + 0 + 0) (LI_fin pr o' hM2 (by rw [LI_w hM2 hne]; exact hw) hk hne (fun _ _ => rfl)) (by unfold cB; omega) (by unfold sB; omega)
set_option maxHeartbeats 1000000 in
theorem lawc_17 (E : LW F G B Y b L xs) (hn : 6 * n + 6 ≤ L) (I : LI n o r ad w D κ σ τ h z) (hc : cs ≤ cB κ n) (hs : ss ≤ sB κ n) (nx : NX F G B Q b o r ad w n) : X F G B Q 8 h z cs ss 932 (lvL b o r w n) [] := by
  have C := E.1
  have hL := E.2.2.2.2.2.2
  have h200 := I.st
  have P := I.1
  have hn5 : n < 512 := by omega
  have hne := I.2.2.2.2.2.2
  have k0 := P.1.1.2.1 0 (by decide) (by decide) (by decide)
  obtain ⟨rr, D', κ', σ', τ', ef, eg, dk, pr, h3⟩ := st_HC P (meet_h hn5 P.1 P.2.2.2.1 P.2.2.2.2.1 P.2.2.2.2.2.1 (xs (6 * n + 1)))
  obtain ⟨n1, e1⟩ := ef.get
  obtain ⟨n2, e2⟩ := eg.get
  unfold cB at hc
  unfold sB at hs
  obtain ⟨hMo, hv, hk⟩ := LI_cl I dk κ' z
  have hw : ∃ f, rn D' κ' w = some (.inl (1, 1, .inr (.inl f))) := by rw [hv w (Or.inr (Or.inr rfl))]; exact I.2.2.2.2.1
  have o' : D'.1 0 0 = D.1 0 0 := (dk.1 0 0 k0).1
  have st200 := pr.2.2.2.1.2.2.1.2
  have eo := I.2.2.1
  have eh := I.2.1
  subst eo eh
  refine X_aload_n C dL_law_932 rfl ?_
  refine L_arg E (i := 6 * n) (j := 1) rfl rfl (by decide) (by omega) dL_law_933 dL_law_934 dL_law_936 dL_law_937 dL_law_938 ?_
  refine X_callVa (As := [.int (xs (6 * n + 1))]) (rest := []) C (Ti_meet_c e1) wLa_107 ⟨by decide, by decide⟩ ⟨by omega, by omega⟩ (rn_at k0) oTi.2.1 rfl rfl (Nat.le_of_ble_eq_true rfl) dL_law_939 ?_
  refine X_aload_n C dL_law_942 rfl ?_
  refine L_arg E (i := 6 * n) (j := 1) rfl rfl (by decide) (by omega) dL_law_943 dL_law_944 dL_law_946 dL_law_947 dL_law_948 ?_
  refine X_callV (As := [.int (xs (6 * n + 1))]) (rest := [.int rr]) (P := mP (r, ad, rn D' κ', z) (some (.int rr)) σ' τ') C (Mo_meet_c (M := (r, ad, rn D' κ', z)) e2 (rn D' κ') hMo) wLa_110 ⟨by decide, by decide⟩ ⟨by omega, by omega⟩ hMo.1 oMo.2.1 rfl rfl (Nat.le_of_ble_eq_true rfl) dL_law_949 (fun v2 h2 z2 q2 => ?_)
  obtain ⟨rfl, hM2, rfl⟩ := q2
  refine X_icmp_eq C (tgt := 1375) dL_law_952 (by decide) (fun _ => ?_) (fun t => absurd rfl t)
  exact nx _ κ' σ' τ' h2 _ (cs + 0 + 0) (ss + 0 + 0) (LI_fin pr o' hM2 (by rw [LI_w hM2 hne]; exact hw) hk hne (fun _ _ => rfl)) (by unfold cB; omega) (by unfold sB; omega)
set_option maxHeartbeats 1000000 in
theorem lawc_18 (E : LW F G B Y b L xs) (hn : 6 * n + 6 ≤ L) (I : LI n o r ad w D κ σ τ h z) (hc : cs ≤ cB κ n) (hs : ss ≤ sB κ n) (nx : NX F G B Q b o r ad w n) : X F G B Q 8 h z cs ss 957 (lvL b o r w n) [] := by
  have C := E.1
  have hL := E.2.2.2.2.2.2
  have h200 := I.st
  have P := I.1
  have hn5 : n < 512 := by omega
  have hne := I.2.2.2.2.2.2
  have k0 := P.1.1.2.1 0 (by decide) (by decide) (by decide)
  obtain ⟨rr, D', κ', σ', τ', ef, eg, dk, pr, h3⟩ := st_RO P (within_ro P.1 P.2.2.2.1 P.2.2.2.2.1 (xs (6 * n + 1)))
  obtain ⟨n1, e1⟩ := ef.get
  obtain ⟨n2, e2⟩ := eg.get
  unfold cB at hc
  unfold sB at hs
  obtain ⟨hMo, hv, hk⟩ := LI_cl I dk κ' z
  have hw : ∃ f, rn D' κ' w = some (.inl (1, 1, .inr (.inl f))) := by rw [hv w (Or.inr (Or.inr rfl))]; exact I.2.2.2.2.1
  have o' : D'.1 0 0 = D.1 0 0 := (dk.1 0 0 k0).1
  have st200 := pr.2.2.2.1.2.2.1.2
  have eo := I.2.2.1
  have eh := I.2.1
  subst eo eh
  refine X_aload_n C dL_law_957 rfl ?_
  refine L_arg E (i := 6 * n) (j := 1) rfl rfl (by decide) (by omega) dL_law_958 dL_law_959 dL_law_961 dL_law_962 dL_law_963 ?_
  refine X_callVa (As := [.int (xs (6 * n + 1))]) (rest := []) C (Ti_within_c e1) wLa_111 ⟨by decide, by decide⟩ ⟨by omega, by omega⟩ (rn_at k0) oTi.2.1 rfl rfl (Nat.le_of_ble_eq_true rfl) dL_law_964 ?_
  refine X_aload_n C dL_law_967 rfl ?_
  refine L_arg E (i := 6 * n) (j := 1) rfl rfl (by decide) (by omega) dL_law_968 dL_law_969 dL_law_971 dL_law_972 dL_law_973 ?_
  refine X_callV (As := [.int (xs (6 * n + 1))]) (rest := [.int rr]) (P := mP (r, ad, rn D' κ', z) (some (.int rr)) σ' τ') C (Mo_within_c (M := (r, ad, rn D' κ', z)) e2 (rn D' κ') hMo) wLa_114 ⟨by decide, by decide⟩ ⟨by omega, by omega⟩ hMo.1 oMo.2.1 rfl rfl (Nat.le_of_ble_eq_true rfl) dL_law_974 (fun v2 h2 z2 q2 => ?_)
  obtain ⟨rfl, hM2, rfl⟩ := q2
  refine X_icmp_eq C (tgt := 1375) dL_law_977 (by decide) (fun _ => ?_) (fun t => absurd rfl t)
  exact nx _ κ' σ' τ' h2 _ (cs + 0 + 0) (ss + 0 + 0) (LI_fin pr o' hM2 (by rw [LI_w hM2 hne]; exact hw) hk hne (fun _ _ => rfl)) (by unfold cB; omega) (by unfold sB; omega)
set_option maxHeartbeats 1000000 in
theorem lawc_19 (E : LW F G B Y b L xs) (hn : 6 * n + 6 ≤ L) (I : LI n o r ad w D κ σ τ h z) (hc : cs ≤ cB κ n) (hs : ss ≤ sB κ n) (nx : NX F G B Q b o r ad w n) : X F G B Q 8 h z cs ss 982 (lvL b o r w n) [] := by
  have C := E.1
  have hL := E.2.2.2.2.2.2
  have h200 := I.st
  have P := I.1
  have hn5 : n < 512 := by omega
  have hne := I.2.2.2.2.2.2
  have k0 := P.1.1.2.1 0 (by decide) (by decide) (by decide)
  obtain ⟨vv, cd, bb, ef, eg, hcd, hvb, pr⟩ := st_RT P (handBound_rt P.1 P.2.2.2.2.1 (xs (6 * n + 1)) (xs (6 * n + 2)))
  obtain ⟨n1, e1⟩ := ef.get
  obtain ⟨n2, e2⟩ := eg.get
  unfold cB at hc
  unfold sB at hs
  have hM := I.2.2.2.1
  have hw := I.2.2.2.2.1
  have hk := I.2.2.2.2.2.1
  have eo := I.2.2.1
  have eh := I.2.1
  subst eo eh
  obtain ⟨H, f, eL, hH, hf, hf0⟩ := L_handBound_ev k0 hw e1
  refine X_aload_n C dL_law_982 rfl ?_
  refine L_arg E (i := 6 * n) (j := 1) rfl rfl (by decide) (by omega) dL_law_983 dL_law_984 dL_law_986 dL_law_987 dL_law_988 ?_
  refine L_arg E (i := 6 * n) (j := 2) rfl rfl (by decide) (by omega) dL_law_989 dL_law_990 dL_law_992 dL_law_993 dL_law_994 ?_
  refine X_aload_n C dL_law_995 rfl ?_
  refine X_callSw (As := [.ref (D.1 0 0), .int (xs (6 * n + 1)), .int (xs (6 * n + 2)), .ref w]) (rest := []) C E.2.1 (L_handBound_c E.2.2.2.2.2.1 eL) wLa_115 ⟨by decide, by decide⟩ ⟨by omega, by omega⟩ rfl rfl (Nat.le_of_ble_eq_true rfl) dL_law_996 (fun v1 h1 z1 q1 => ?_)
  obtain ⟨rfl, eh1, hz⟩ := q1
  have eh2 : H = h1 := eh1.symm
  subst eh2
  have hMo := Mo_w (z' := z1) hM hH hne
  refine X_istore (lv' := [(5, .int (J cd)), (0, .ref b), (1, .ref (D.1 0 0)), (2, .ref r), (3, .ref w), (4, .int (J (6 * n)))]) C dL_law_999 (by decide) rfl ?_
  refine X_aload_n C dL_law_1001 rfl ?_
  refine L_arg E (i := 6 * n) (j := 1) rfl rfl (by decide) (by omega) dL_law_1002 dL_law_1003 dL_law_1005 dL_law_1006 dL_law_1007 ?_
  refine L_arg E (i := 6 * n) (j := 2) rfl rfl (by decide) (by omega) dL_law_1008 dL_law_1009 dL_law_1011 dL_law_1012 dL_law_1013 ?_
  refine X_callV (As := [.int (xs (6 * n + 1)), .int (xs (6 * n + 2))]) (rest := []) (P := mP (r, ad, H, z1) (some (.int bb)) (su σ 0 0 (J cd)) τ) C (Mo_handBound_c (M := (r, ad, H, z1)) e2 H hMo) wLa_118 ⟨by decide, by decide⟩ ⟨by omega, by omega⟩ hMo.1 oMo.2.1 rfl rfl (Nat.le_of_ble_eq_true rfl) dL_law_1014 (fun v2 h2 z2 q2 => ?_)
  obtain ⟨rfl, hM2, ez2⟩ := q2
  have ez2b : z1 = z2 := ez2.symm
  subst ez2b
  refine X_istore (lv' := [(6, .int bb), (5, .int (J cd)), (0, .ref b), (1, .ref (D.1 0 0)), (2, .ref r), (3, .ref w), (4, .int (J (6 * n)))]) C dL_law_1017 (by decide) rfl ?_
  refine X_aload_n C dL_law_1019 rfl ?_
  refine X_callV (As := []) (rest := []) (P := mP (r, ad, H, z1) (some (.int (su σ 0 0 (J cd) 0 0))) (su σ 0 0 (J cd)) τ) C (Mo_thrown_c (n := 0) (M := (r, ad, H, z1)) (R := (su σ 0 0 (J cd) 0 0, su σ 0 0 (J cd), τ)) rfl h2 hM2) wLa_67 ⟨by decide, by decide⟩ ⟨by omega, by omega⟩ hM2.1 oMo.2.1 rfl rfl (Nat.le_of_ble_eq_true rfl) dL_law_1020 (fun v3 h3 z3 q3 => ?_)
  obtain ⟨rfl, hM3, ez3⟩ := q3
  have ez3b : z1 = z3 := ez3.symm
  subst ez3b
  refine X_iload C dL_law_1023 rfl ?_
  refine X_icmp_eq C (tgt := 1030) dL_law_1025 (by decide) (fun _ => ?_) (fun t => absurd (su_e _ _ _ _) t)
  have hw3 : h3 w = some (.inl (1, 1, .inr (.inl f))) := by rw [LI_w hM3 hne]; exact hf
  have fin : X F G B Q 8 h3 z1 (cs + 1 + 0 + 0) (ss + 6 + 0 + 0) 1375 [(6, .int bb), (5, .int (J cd)), (0, .ref b), (1, .ref (D.1 0 0)), (2, .ref r), (3, .ref w), (4, .int (J (6 * n)))] [] := X_sub (lv' := lvL b (D.1 0 0) r w n) [2, 3, 4, 5, 6] rfl (nx _ κ (su σ 0 0 (J cd)) τ h3 z1 (cs + 1 + 0 + 0) (ss + 6 + 0 + 0) (LI_fin (PR_z pr hz) rfl hM3 ⟨f, hw3⟩ hk hne (fun a na => hH a (fun t => na (Or.inr (Or.inr t))))) (by unfold cB; omega) (by unfold sB; omega))
  refine X_iload C dL_law_1030 rfl ?_
  refine X_if_ne C (tgt := 1047) dL_law_1032 (by decide) (fun _ => ?_) (fun t0 => ?_)
  · exact X_goto C (tgt := 1375) dL_law_1047 (by decide) fin
  · have c0 : cd = 0 := by
      have t1 : J cd = J 0 := t0
      rw [J_eq (by omega) (by omega)] at t1
      exact t1
    refine X_aload_n C dL_law_1035 rfl ?_
    refine X_iconst C (v := 0) dL_law_1036 (by decide) ?_
    refine X_lald C (f := f) rfl hw3 (vp_J (k := 0) (by decide) (by decide)) dL_law_1037 ?_
    refine X_iload C dL_law_1038 rfl ?_
    refine X_i2l C dL_law_1040 ?_
    refine X_lcmp C dL_law_1041 ?_
    have ef0 : f (Int32.toNatClampNeg 0) = (Int32.toInt64 bb) := by
      rw [show Int32.toNatClampNeg 0 = 0 from rfl, hf0 c0, hvb c0]
    have ez : lg_cmp (f (Int32.toNatClampNeg 0)) (Int32.toInt64 bb) = 0 := by
      rw [ef0]
      exact lgc_e _
    refine X_if_eq C (tgt := 1047) dL_law_1042 (by decide) (fun _ => ?_) (fun t => absurd ez t)
    exact X_goto C (tgt := 1375) dL_law_1047 (by decide) fin
end LC2
