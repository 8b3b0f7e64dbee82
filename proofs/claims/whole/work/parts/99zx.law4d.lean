/-! THE LAW: cases 20 to 26 -/
section LC3
variable {F : xF} {G : xG} {B : Nat} {Y : Nat → Nat} {b L : Nat} {xs : Nat → Int32} {Q : State → Prop} {n o r w z cs ss : Nat} {ad : Nat → Nat} {D : kD} {κ : kS} {σ : mS} {τ : mL} {h : xH}
set_option maxHeartbeats 1000000 in
theorem lawc_20 (E : LW F G B Y b L xs) (hn : 6 * n + 6 ≤ L) (I : LI n o r ad w D κ σ τ h z) (hc : cs ≤ cB κ n) (hs : ss ≤ sB κ n) (nx : NX F G B Q b o r ad w n) : X F G B Q 8 h z cs ss 1050 (lvL b o r w n) [] := by
  have C := E.1
  have hL := E.2.2.2.2.2.2
  have h200 := I.st
  have P := I.1
  have hn5 : n < 512 := by omega
  have hne := I.2.2.2.2.2.2
  have k0 := P.1.1.2.1 0 (by decide) (by decide) (by decide)
  obtain ⟨rr, D', κ', σ', τ', ef, eg, dk, pr, h3⟩ := st_RO P (count_ro P.1 P.2.2.2.1 (xs (6 * n + 1)))
  obtain ⟨n1, e1⟩ := ef.get
  obtain ⟨n2, e2⟩ := eg.get
  unfold cB at hc
  unfold sB at hs
  obtain ⟨hMo, hv, hk⟩ := LI_cl I dk κ' z
  have hw : ∃ f, rn D' κ' w = some (.inl (1, 1, .inr (.inl f))) := by rw [hv w (Or.inr (Or.inr rfl))]; exact I.2.2.2.2.1
  have o' : D'.1 0 0 = D.1 0 0 := (dk.1 0 0 k0).1
  have st200 := pr.2.2.2.1.2.2.1.2
  have eo := I.2.2.1
  have eh := I.2.1
  subst eo eh
  refine X_aload_n C dL_law_1050 rfl ?_
  refine L_arg E (i := 6 * n) (j := 1) rfl rfl (by decide) (by omega) dL_law_1051 dL_law_1052 dL_law_1054 dL_law_1055 dL_law_1056 ?_
  refine X_callVa (As := [.int (xs (6 * n + 1))]) (rest := []) C (Ti_count_c e1) wLa_119 ⟨by decide, by decide⟩ ⟨by omega, by omega⟩ (rn_at k0) oTi.2.1 rfl rfl (Nat.le_of_ble_eq_true rfl) dL_law_1057 ?_
  refine X_aload_n C dL_law_1060 rfl ?_
  refine L_arg E (i := 6 * n) (j := 1) rfl rfl (by decide) (by omega) dL_law_1061 dL_law_1062 dL_law_1064 dL_law_1065 dL_law_1066 ?_
  refine X_callV (As := [.int (xs (6 * n + 1))]) (rest := [.int rr]) (P := mP (r, ad, rn D' κ', z) (some (.int rr)) σ' τ') C (Mo_count_c (M := (r, ad, rn D' κ', z)) e2 (rn D' κ') hMo) wLa_122 ⟨by decide, by decide⟩ ⟨by omega, by omega⟩ hMo.1 oMo.2.1 rfl rfl (Nat.le_of_ble_eq_true rfl) dL_law_1067 (fun v2 h2 z2 q2 => ?_)
  obtain ⟨rfl, hM2, rfl⟩ := q2
  refine X_icmp_eq C (tgt := 1375) dL_law_1070 (by decide) (fun _ => ?_) (fun t => absurd rfl t)
  exact nx _ κ' σ' τ' h2 _ (cs + 0 + 0) (ss + 0 + 0) (LI_fin pr o' hM2 (by rw [LI_w hM2 hne]; exact hw) hk hne (fun _ _ => rfl)) (by unfold cB; omega) (by unfold sB; omega)
set_option maxHeartbeats 1000000 in
theorem lawc_21 (E : LW F G B Y b L xs) (hn : 6 * n + 6 ≤ L) (I : LI n o r ad w D κ σ τ h z) (hc : cs ≤ cB κ n) (hs : ss ≤ sB κ n) (nx : NX F G B Q b o r ad w n) : X F G B Q 8 h z cs ss 1075 (lvL b o r w n) [] := by
  have C := E.1
  have hL := E.2.2.2.2.2.2
  have h200 := I.st
  have P := I.1
  have hn5 : n < 512 := by omega
  have hne := I.2.2.2.2.2.2
  have k0 := P.1.1.2.1 0 (by decide) (by decide) (by decide)
  obtain ⟨rr, D', κ', σ', τ', c, s, ef, eg, dk, pr, h3, hc3, hs3⟩ := st_SCo P (keep_s P.1 P.2.2.2.1 P.2.1 P.2.2.2.2.2.2.1 (by have := P.2.2.2.2.2.2.2; omega) (xs (6 * n + 1)) (xs (6 * n + 2)) (xs (6 * n + 3)) (xs (6 * n + 4)))
  obtain ⟨n1, e1⟩ := ef.get
  obtain ⟨n2, e2⟩ := eg.get
  unfold cB at hc
  unfold sB at hs
  obtain ⟨hMo, hv, hk⟩ := LI_cl I dk κ' (z + c)
  have hw : ∃ f, rn D' κ' w = some (.inl (1, 1, .inr (.inl f))) := by rw [hv w (Or.inr (Or.inr rfl))]; exact I.2.2.2.2.1
  have o' : D'.1 0 0 = D.1 0 0 := (dk.1 0 0 k0).1
  have st200 := pr.2.2.2.1.2.2.1.2
  have eo := I.2.2.1
  have eh := I.2.1
  subst eo eh
  refine X_aload_n C dL_law_1075 rfl ?_
  refine L_arg E (i := 6 * n) (j := 1) rfl rfl (by decide) (by omega) dL_law_1076 dL_law_1077 dL_law_1079 dL_law_1080 dL_law_1081 ?_
  refine L_arg E (i := 6 * n) (j := 2) rfl rfl (by decide) (by omega) dL_law_1082 dL_law_1083 dL_law_1085 dL_law_1086 dL_law_1087 ?_
  refine L_arg E (i := 6 * n) (j := 3) rfl rfl (by decide) (by omega) dL_law_1088 dL_law_1089 dL_law_1091 dL_law_1092 dL_law_1093 ?_
  refine L_arg E (i := 6 * n) (j := 4) rfl rfl (by decide) (by omega) dL_law_1094 dL_law_1095 dL_law_1097 dL_law_1098 dL_law_1099 ?_
  have qc : cs + c ≤ 601024 := by omega
  have qs : ss + s ≤ 7293034 := by omega
  refine X_callVa (As := [.int (xs (6 * n + 1)), .int (xs (6 * n + 2)), .int (xs (6 * n + 3)), .int (xs (6 * n + 4))]) (rest := []) C (Ti_keep_c e1) wLa_123 ⟨by decide, by decide⟩ ⟨qc, qs⟩ (rn_at k0) oTi.2.1 rfl rfl (Nat.le_of_ble_eq_true rfl) dL_law_1100 ?_
  refine X_aload_n C dL_law_1103 rfl ?_
  refine L_arg E (i := 6 * n) (j := 1) rfl rfl (by decide) (by omega) dL_law_1104 dL_law_1105 dL_law_1107 dL_law_1108 dL_law_1109 ?_
  refine L_arg E (i := 6 * n) (j := 2) rfl rfl (by decide) (by omega) dL_law_1110 dL_law_1111 dL_law_1113 dL_law_1114 dL_law_1115 ?_
  refine L_arg E (i := 6 * n) (j := 3) rfl rfl (by decide) (by omega) dL_law_1116 dL_law_1117 dL_law_1119 dL_law_1120 dL_law_1121 ?_
  refine L_arg E (i := 6 * n) (j := 4) rfl rfl (by decide) (by omega) dL_law_1122 dL_law_1123 dL_law_1125 dL_law_1126 dL_law_1127 ?_
  refine X_callV (As := [.int (xs (6 * n + 1)), .int (xs (6 * n + 2)), .int (xs (6 * n + 3)), .int (xs (6 * n + 4))]) (rest := [.int rr]) (P := mP (r, ad, rn D' κ', (z + c)) (some (.int rr)) σ' τ') C (Mo_keep_c (M := (r, ad, rn D' κ', (z + c))) e2 (rn D' κ') hMo) wLa_127 ⟨by decide, by decide⟩ ⟨qc, qs⟩ hMo.1 oMo.2.1 rfl rfl (Nat.le_of_ble_eq_true rfl) dL_law_1128 (fun v2 h2 z2 q2 => ?_)
  obtain ⟨rfl, hM2, rfl⟩ := q2
  refine X_icmp_eq C (tgt := 1375) dL_law_1131 (by decide) (fun _ => ?_) (fun t => absurd rfl t)
  exact nx _ κ' σ' τ' h2 _ (cs + c + 0) (ss + s + 0) (LI_fin pr o' hM2 (by rw [LI_w hM2 hne]; exact hw) hk hne (fun _ _ => rfl)) (by unfold cB; omega) (by unfold sB; omega)
set_option maxHeartbeats 1000000 in
theorem lawc_22 (E : LW F G B Y b L xs) (hn : 6 * n + 6 ≤ L) (I : LI n o r ad w D κ σ τ h z) (hc : cs ≤ cB κ n) (hs : ss ≤ sB κ n) (nx : NX F G B Q b o r ad w n) : X F G B Q 8 h z cs ss 1136 (lvL b o r w n) [] := by
  have C := E.1
  have hL := E.2.2.2.2.2.2
  have h200 := I.st
  have P := I.1
  have hn5 : n < 512 := by omega
  have hne := I.2.2.2.2.2.2
  have k0 := P.1.1.2.1 0 (by decide) (by decide) (by decide)
  obtain ⟨rr, D', κ', σ', τ', c, s, ef, eg, dk, pr, h3, hc3, hs3⟩ := st_SCo P (make_s P.1 P.2.1 P.2.2.2.2.2.2.1 (by have := P.2.2.2.2.2.2.2; omega) (xs (6 * n + 1)) (xs (6 * n + 2)) (xs (6 * n + 3)))
  obtain ⟨n1, e1⟩ := ef.get
  obtain ⟨n2, e2⟩ := eg.get
  unfold cB at hc
  unfold sB at hs
  obtain ⟨hMo, hv, hk⟩ := LI_cl I dk κ' (z + c)
  have hw : ∃ f, rn D' κ' w = some (.inl (1, 1, .inr (.inl f))) := by rw [hv w (Or.inr (Or.inr rfl))]; exact I.2.2.2.2.1
  have o' : D'.1 0 0 = D.1 0 0 := (dk.1 0 0 k0).1
  have st200 := pr.2.2.2.1.2.2.1.2
  have eo := I.2.2.1
  have eh := I.2.1
  subst eo eh
  refine X_aload_n C dL_law_1136 rfl ?_
  refine L_arg E (i := 6 * n) (j := 1) rfl rfl (by decide) (by omega) dL_law_1137 dL_law_1138 dL_law_1140 dL_law_1141 dL_law_1142 ?_
  refine L_arg E (i := 6 * n) (j := 2) rfl rfl (by decide) (by omega) dL_law_1143 dL_law_1144 dL_law_1146 dL_law_1147 dL_law_1148 ?_
  refine L_arg E (i := 6 * n) (j := 3) rfl rfl (by decide) (by omega) dL_law_1149 dL_law_1150 dL_law_1152 dL_law_1153 dL_law_1154 ?_
  have qc : cs + c ≤ 601024 := by omega
  have qs : ss + s ≤ 7293034 := by omega
  refine X_callVa (As := [.int (xs (6 * n + 1)), .int (xs (6 * n + 2)), .int (xs (6 * n + 3))]) (rest := []) C (Ti_make_c e1) wLa_128 ⟨by decide, by decide⟩ ⟨qc, qs⟩ (rn_at k0) oTi.2.1 rfl rfl (Nat.le_of_ble_eq_true rfl) dL_law_1155 ?_
  refine X_aload_n C dL_law_1158 rfl ?_
  refine L_arg E (i := 6 * n) (j := 1) rfl rfl (by decide) (by omega) dL_law_1159 dL_law_1160 dL_law_1162 dL_law_1163 dL_law_1164 ?_
  refine L_arg E (i := 6 * n) (j := 2) rfl rfl (by decide) (by omega) dL_law_1165 dL_law_1166 dL_law_1168 dL_law_1169 dL_law_1170 ?_
  refine L_arg E (i := 6 * n) (j := 3) rfl rfl (by decide) (by omega) dL_law_1171 dL_law_1172 dL_law_1174 dL_law_1175 dL_law_1176 ?_
  refine X_callV (As := [.int (xs (6 * n + 1)), .int (xs (6 * n + 2)), .int (xs (6 * n + 3))]) (rest := [.int rr]) (P := mP (r, ad, rn D' κ', (z + c)) (some (.int rr)) σ' τ') C (Mo_make_c (M := (r, ad, rn D' κ', (z + c))) e2 (rn D' κ') hMo) wLa_131 ⟨by decide, by decide⟩ ⟨qc, qs⟩ hMo.1 oMo.2.1 rfl rfl (Nat.le_of_ble_eq_true rfl) dL_law_1177 (fun v2 h2 z2 q2 => ?_)
  obtain ⟨rfl, hM2, rfl⟩ := q2
  refine X_icmp_eq C (tgt := 1375) dL_law_1180 (by decide) (fun _ => ?_) (fun t => absurd rfl t)
  exact nx _ κ' σ' τ' h2 _ (cs + c + 0) (ss + s + 0) (LI_fin pr o' hM2 (by rw [LI_w hM2 hne]; exact hw) hk hne (fun _ _ => rfl)) (by unfold cB; omega) (by unfold sB; omega)
set_option maxHeartbeats 1000000 in
theorem lawc_23 (E : LW F G B Y b L xs) (hn : 6 * n + 6 ≤ L) (I : LI n o r ad w D κ σ τ h z) (hc : cs ≤ cB κ n) (hs : ss ≤ sB κ n) (nx : NX F G B Q b o r ad w n) : X F G B Q 8 h z cs ss 1185 (lvL b o r w n) [] := by
  have C := E.1
  have hL := E.2.2.2.2.2.2
  have h200 := I.st
  have P := I.1
  have hn5 : n < 512 := by omega
  have hne := I.2.2.2.2.2.2
  have k0 := P.1.1.2.1 0 (by decide) (by decide) (by decide)
  obtain ⟨vv, cd, bb, ef, eg, hcd, hvb, pr⟩ := st_RT P (element_rt P.1 P.2.2.2.2.2.2.1 (xs (6 * n + 1)) (xs (6 * n + 2)))
  obtain ⟨n1, e1⟩ := ef.get
  obtain ⟨n2, e2⟩ := eg.get
  unfold cB at hc
  unfold sB at hs
  have hM := I.2.2.2.1
  have hw := I.2.2.2.2.1
  have hk := I.2.2.2.2.2.1
  have eo := I.2.2.1
  have eh := I.2.1
  subst eo eh
  obtain ⟨H, f, eL, hH, hf, hf0⟩ := L_element_ev k0 hw hcd e1
  refine X_aload_n C dL_law_1185 rfl ?_
  refine L_arg E (i := 6 * n) (j := 1) rfl rfl (by decide) (by omega) dL_law_1186 dL_law_1187 dL_law_1189 dL_law_1190 dL_law_1191 ?_
  refine L_arg E (i := 6 * n) (j := 2) rfl rfl (by decide) (by omega) dL_law_1192 dL_law_1193 dL_law_1195 dL_law_1196 dL_law_1197 ?_
  refine X_aload_n C dL_law_1198 rfl ?_
  refine X_callSw (As := [.ref (D.1 0 0), .int (xs (6 * n + 1)), .int (xs (6 * n + 2)), .ref w]) (rest := []) C E.2.1 (L_element_c E.2.2.2.2.2.1 eL) wLa_132 ⟨by decide, by decide⟩ ⟨by omega, by omega⟩ rfl rfl (Nat.le_of_ble_eq_true rfl) dL_law_1199 (fun v1 h1 z1 q1 => ?_)
  obtain ⟨rfl, eh1, hz⟩ := q1
  have eh2 : H = h1 := eh1.symm
  subst eh2
  have hMo := Mo_w (z' := z1) hM hH hne
  refine X_istore (lv' := [(5, .int (J cd)), (0, .ref b), (1, .ref (D.1 0 0)), (2, .ref r), (3, .ref w), (4, .int (J (6 * n)))]) C dL_law_1202 (by decide) rfl ?_
  refine X_aload_n C dL_law_1204 rfl ?_
  refine L_arg E (i := 6 * n) (j := 1) rfl rfl (by decide) (by omega) dL_law_1205 dL_law_1206 dL_law_1208 dL_law_1209 dL_law_1210 ?_
  refine L_arg E (i := 6 * n) (j := 2) rfl rfl (by decide) (by omega) dL_law_1211 dL_law_1212 dL_law_1214 dL_law_1215 dL_law_1216 ?_
  refine X_callV (As := [.int (xs (6 * n + 1)), .int (xs (6 * n + 2))]) (rest := []) (P := mP (r, ad, H, z1) (some (.long bb)) (su σ 0 0 (J cd)) τ) C (Mo_element_c (M := (r, ad, H, z1)) e2 H hMo) wLa_134 ⟨by decide, by decide⟩ ⟨by omega, by omega⟩ hMo.1 oMo.2.1 rfl rfl (Nat.le_of_ble_eq_true rfl) dL_law_1217 (fun v2 h2 z2 q2 => ?_)
  obtain ⟨rfl, hM2, ez2⟩ := q2
  have ez2b : z1 = z2 := ez2.symm
  subst ez2b
  refine X_lstore (lv' := [(6, .long bb), (5, .int (J cd)), (0, .ref b), (1, .ref (D.1 0 0)), (2, .ref r), (3, .ref w), (4, .int (J (6 * n)))]) C dL_law_1220 (by decide) rfl ?_
  refine X_aload_n C dL_law_1222 rfl ?_
  refine X_callV (As := []) (rest := []) (P := mP (r, ad, H, z1) (some (.int (su σ 0 0 (J cd) 0 0))) (su σ 0 0 (J cd)) τ) C (Mo_thrown_c (n := 0) (M := (r, ad, H, z1)) (R := (su σ 0 0 (J cd) 0 0, su σ 0 0 (J cd), τ)) rfl h2 hM2) wLa_67 ⟨by decide, by decide⟩ ⟨by omega, by omega⟩ hM2.1 oMo.2.1 rfl rfl (Nat.le_of_ble_eq_true rfl) dL_law_1223 (fun v3 h3 z3 q3 => ?_)
  obtain ⟨rfl, hM3, ez3⟩ := q3
  have ez3b : z1 = z3 := ez3.symm
  subst ez3b
  refine X_iload C dL_law_1226 rfl ?_
  refine X_icmp_eq C (tgt := 1233) dL_law_1228 (by decide) (fun _ => ?_) (fun t => absurd (su_e _ _ _ _) t)
  have hw3 : h3 w = some (.inl (1, 1, .inr (.inl f))) := by rw [LI_w hM3 hne]; exact hf
  have fin : X F G B Q 8 h3 z1 (cs + 1 + 0 + 0) (ss + 6 + 0 + 0) 1375 [(6, .long bb), (5, .int (J cd)), (0, .ref b), (1, .ref (D.1 0 0)), (2, .ref r), (3, .ref w), (4, .int (J (6 * n)))] [] := X_sub (lv' := lvL b (D.1 0 0) r w n) [2, 3, 4, 5, 6] rfl (nx _ κ (su σ 0 0 (J cd)) τ h3 z1 (cs + 1 + 0 + 0) (ss + 6 + 0 + 0) (LI_fin (PR_z pr hz) rfl hM3 ⟨f, hw3⟩ hk hne (fun a na => hH a (fun t => na (Or.inr (Or.inr t))))) (by unfold cB; omega) (by unfold sB; omega))
  refine X_iload C dL_law_1233 rfl ?_
  refine X_if_ne C (tgt := 1249) dL_law_1235 (by decide) (fun _ => ?_) (fun t0 => ?_)
  · exact X_goto C (tgt := 1375) dL_law_1249 (by decide) fin
  · have c0 : cd = 0 := by
      have t1 : J cd = J 0 := t0
      rw [J_eq (by omega) (by omega)] at t1
      exact t1
    refine X_aload_n C dL_law_1238 rfl ?_
    refine X_iconst C (v := 0) dL_law_1239 (by decide) ?_
    refine X_lald C (f := f) rfl hw3 (vp_J (k := 0) (by decide) (by decide)) dL_law_1240 ?_
    refine X_lload C dL_law_1241 rfl ?_
    refine X_lcmp C dL_law_1243 ?_
    have ef0 : f (Int32.toNatClampNeg 0) = bb := by
      rw [show Int32.toNatClampNeg 0 = 0 from rfl, hf0 c0, hvb c0]
    have ez : lg_cmp (f (Int32.toNatClampNeg 0)) bb = 0 := by
      rw [ef0]
      exact lgc_e _
    refine X_if_eq C (tgt := 1249) dL_law_1244 (by decide) (fun _ => ?_) (fun t => absurd ez t)
    exact X_goto C (tgt := 1375) dL_law_1249 (by decide) fin
set_option maxHeartbeats 1000000 in
theorem lawc_24 (E : LW F G B Y b L xs) (hn : 6 * n + 6 ≤ L) (I : LI n o r ad w D κ σ τ h z) (hc : cs ≤ cB κ n) (hs : ss ≤ sB κ n) (nx : NX F G B Q b o r ad w n) : X F G B Q 8 h z cs ss 1252 (lvL b o r w n) [] := by
  have C := E.1
  have hL := E.2.2.2.2.2.2
  have h200 := I.st
  have P := I.1
  have hn5 : n < 512 := by omega
  have hne := I.2.2.2.2.2.2
  have k0 := P.1.1.2.1 0 (by decide) (by decide) (by decide)
  obtain ⟨rr, D', κ', σ', τ', ef, eg, dk, pr, h3⟩ := st_SCn P (copy_s P.1 P.2.1 P.2.2.2.2.2.2.1 (xs (6 * n + 1)) (xs (6 * n + 2)) (xs (6 * n + 3)) (xs (6 * n + 4)) (xs (6 * n + 5)))
  obtain ⟨n1, e1⟩ := ef.get
  obtain ⟨n2, e2⟩ := eg.get
  unfold cB at hc
  unfold sB at hs
  obtain ⟨hMo, hv, hk⟩ := LI_cl I dk κ' z
  have hw : ∃ f, rn D' κ' w = some (.inl (1, 1, .inr (.inl f))) := by rw [hv w (Or.inr (Or.inr rfl))]; exact I.2.2.2.2.1
  have o' : D'.1 0 0 = D.1 0 0 := (dk.1 0 0 k0).1
  have st200 := pr.2.2.2.1.2.2.1.2
  have eo := I.2.2.1
  have eh := I.2.1
  subst eo eh
  refine X_aload_n C dL_law_1252 rfl ?_
  refine L_arg E (i := 6 * n) (j := 1) rfl rfl (by decide) (by omega) dL_law_1253 dL_law_1254 dL_law_1256 dL_law_1257 dL_law_1258 ?_
  refine L_arg E (i := 6 * n) (j := 2) rfl rfl (by decide) (by omega) dL_law_1259 dL_law_1260 dL_law_1262 dL_law_1263 dL_law_1264 ?_
  refine L_arg E (i := 6 * n) (j := 3) rfl rfl (by decide) (by omega) dL_law_1265 dL_law_1266 dL_law_1268 dL_law_1269 dL_law_1270 ?_
  refine L_arg E (i := 6 * n) (j := 4) rfl rfl (by decide) (by omega) dL_law_1271 dL_law_1272 dL_law_1274 dL_law_1275 dL_law_1276 ?_
  refine L_arg E (i := 6 * n) (j := 5) rfl rfl (by decide) (by omega) dL_law_1277 dL_law_1278 dL_law_1280 dL_law_1281 dL_law_1282 ?_
  refine X_callVy (As := [.int (xs (6 * n + 1)), .int (xs (6 * n + 2)), .int (xs (6 * n + 3)), .int (xs (6 * n + 4)), .int (xs (6 * n + 5))]) (rest := []) C E.2.1 (Ti_copy_c e1) wLa_135 ⟨by decide, by decide⟩ ⟨by omega, by omega⟩ (rn_at k0) oTi.2.1 rfl rfl (Nat.le_of_ble_eq_true rfl) dL_law_1283 (fun v1 h1 z1 q1 => ?_)
  obtain ⟨rfl, rfl, ez1⟩ := q1
  have ez1b : z = z1 := ez1.symm
  subst ez1b
  refine X_aload_n C dL_law_1286 rfl ?_
  refine L_arg E (i := 6 * n) (j := 1) rfl rfl (by decide) (by omega) dL_law_1287 dL_law_1288 dL_law_1290 dL_law_1291 dL_law_1292 ?_
  refine L_arg E (i := 6 * n) (j := 2) rfl rfl (by decide) (by omega) dL_law_1293 dL_law_1294 dL_law_1296 dL_law_1297 dL_law_1298 ?_
  refine L_arg E (i := 6 * n) (j := 3) rfl rfl (by decide) (by omega) dL_law_1299 dL_law_1300 dL_law_1302 dL_law_1303 dL_law_1304 ?_
  refine L_arg E (i := 6 * n) (j := 4) rfl rfl (by decide) (by omega) dL_law_1305 dL_law_1306 dL_law_1308 dL_law_1309 dL_law_1310 ?_
  refine L_arg E (i := 6 * n) (j := 5) rfl rfl (by decide) (by omega) dL_law_1311 dL_law_1312 dL_law_1314 dL_law_1315 dL_law_1316 ?_
  refine X_callV (As := [.int (xs (6 * n + 1)), .int (xs (6 * n + 2)), .int (xs (6 * n + 3)), .int (xs (6 * n + 4)), .int (xs (6 * n + 5))]) (rest := [.int rr]) (P := mP (r, ad, rn D' κ', z) (some (.int rr)) σ' τ') C (Mo_copy_c (M := (r, ad, rn D' κ', z)) e2 (rn D' κ') hMo) wLa_138 ⟨by decide, by decide⟩ ⟨by omega, by omega⟩ hMo.1 oMo.2.1 rfl rfl (Nat.le_of_ble_eq_true rfl) dL_law_1317 (fun v2 h2 z2 q2 => ?_)
  obtain ⟨rfl, hM2, rfl⟩ := q2
  refine X_icmp_eq C (tgt := 1375) dL_law_1320 (by decide) (fun _ => ?_) (fun t => absurd rfl t)
  exact nx _ κ' σ' τ' h2 _ (cs + 0 + 0) (ss + 0 + 0) (LI_fin pr o' hM2 (by rw [LI_w hM2 hne]; exact hw) hk hne (fun _ _ => rfl)) (by unfold cB; omega) (by unfold sB; omega)
set_option maxHeartbeats 1000000 in
theorem lawc_25 (E : LW F G B Y b L xs) (hn : 6 * n + 6 ≤ L) (I : LI n o r ad w D κ σ τ h z) (hc : cs ≤ cB κ n) (hs : ss ≤ sB κ n) (nx : NX F G B Q b o r ad w n) : X F G B Q 8 h z cs ss 1325 (lvL b o r w n) [] := by
  have C := E.1
  have hL := E.2.2.2.2.2.2
  have h200 := I.st
  have P := I.1
  have hn5 : n < 512 := by omega
  have hne := I.2.2.2.2.2.2
  have k0 := P.1.1.2.1 0 (by decide) (by decide) (by decide)
  obtain ⟨rr, D', κ', σ', τ', ef, eg, dk, pr, h3⟩ := st_RO P (weight_ro P.1 P.2.2.2.2.2.2.1 (xs (6 * n + 1)))
  obtain ⟨n1, e1⟩ := ef.get
  obtain ⟨n2, e2⟩ := eg.get
  unfold cB at hc
  unfold sB at hs
  obtain ⟨hMo, hv, hk⟩ := LI_cl I dk κ' z
  have hw : ∃ f, rn D' κ' w = some (.inl (1, 1, .inr (.inl f))) := by rw [hv w (Or.inr (Or.inr rfl))]; exact I.2.2.2.2.1
  have o' : D'.1 0 0 = D.1 0 0 := (dk.1 0 0 k0).1
  have st200 := pr.2.2.2.1.2.2.1.2
  have eo := I.2.2.1
  have eh := I.2.1
  subst eo eh
  refine X_aload_n C dL_law_1325 rfl ?_
  refine L_arg E (i := 6 * n) (j := 1) rfl rfl (by decide) (by omega) dL_law_1326 dL_law_1327 dL_law_1329 dL_law_1330 dL_law_1331 ?_
  refine X_callVy (As := [.int (xs (6 * n + 1))]) (rest := []) C E.2.1 (Ti_weight_c e1) wLa_139 ⟨by decide, by decide⟩ ⟨by omega, by omega⟩ (rn_at k0) oTi.2.1 rfl rfl (Nat.le_of_ble_eq_true rfl) dL_law_1332 (fun v1 h1 z1 q1 => ?_)
  obtain ⟨rfl, rfl, ez1⟩ := q1
  have ez1b : z = z1 := ez1.symm
  subst ez1b
  refine X_aload_n C dL_law_1335 rfl ?_
  refine L_arg E (i := 6 * n) (j := 1) rfl rfl (by decide) (by omega) dL_law_1336 dL_law_1337 dL_law_1339 dL_law_1340 dL_law_1341 ?_
  refine X_callV (As := [.int (xs (6 * n + 1))]) (rest := [.int rr]) (P := mP (r, ad, rn D' κ', z) (some (.int rr)) σ' τ') C (Mo_weight_c (M := (r, ad, rn D' κ', z)) e2 (rn D' κ') hMo) wLa_142 ⟨by decide, by decide⟩ ⟨by omega, by omega⟩ hMo.1 oMo.2.1 rfl rfl (Nat.le_of_ble_eq_true rfl) dL_law_1342 (fun v2 h2 z2 q2 => ?_)
  obtain ⟨rfl, hM2, rfl⟩ := q2
  refine X_icmp_eq C (tgt := 1375) dL_law_1345 (by decide) (fun _ => ?_) (fun t => absurd rfl t)
  exact nx _ κ' σ' τ' h2 _ (cs + 0 + 0) (ss + 0 + 0) (LI_fin pr o' hM2 (by rw [LI_w hM2 hne]; exact hw) hk hne (fun _ _ => rfl)) (by unfold cB; omega) (by unfold sB; omega)
set_option maxHeartbeats 1000000 in
theorem lawc_26 (E : LW F G B Y b L xs) (hn : 6 * n + 6 ≤ L) (I : LI n o r ad w D κ σ τ h z) (hc : cs ≤ cB κ n) (hs : ss ≤ sB κ n) (nx : NX F G B Q b o r ad w n) : X F G B Q 8 h z cs ss 1350 (lvL b o r w n) [] := by
  have C := E.1
  have hL := E.2.2.2.2.2.2
  have h200 := I.st
  have P := I.1
  have hn5 : n < 512 := by omega
  have hne := I.2.2.2.2.2.2
  have k0 := P.1.1.2.1 0 (by decide) (by decide) (by decide)
  obtain ⟨rr, D', κ', σ', τ', ef, eg, dk, pr, h3⟩ := st_RO P (toss_ro P.1 P.2.2.2.2.2.2.1 (xs (6 * n + 1)))
  obtain ⟨n1, e1⟩ := ef.get
  obtain ⟨n2, e2⟩ := eg.get
  unfold cB at hc
  unfold sB at hs
  have o' : D'.1 0 0 = D.1 0 0 := (dk.1 0 0 k0).1
  have st200 := pr.2.2.2.1.2.2.1.2
  have I0 := I
  have eo := I.2.2.1
  have eh := I.2.1
  subst eo eh
  refine X_aload_n C dL_law_1350 rfl ?_
  refine L_arg E (i := 6 * n) (j := 1) rfl rfl (by decide) (by omega) dL_law_1351 dL_law_1352 dL_law_1354 dL_law_1355 dL_law_1356 ?_
  refine X_callVy (As := [.int (xs (6 * n + 1))]) (rest := []) C E.2.1 (Ti_toss_c E.2.2.2.2.2.1 e1) wLa_143 ⟨by decide, by decide⟩ ⟨by omega, by omega⟩ (rn_at k0) oTi.2.1 rfl rfl (Nat.le_of_ble_eq_true rfl) dL_law_1357 (fun v1 h1 z1 q1 => ?_)
  obtain ⟨rfl, rfl, hz⟩ := q1
  obtain ⟨hMo, hv, hk⟩ := LI_cl I dk κ' z1
  have hw : ∃ f, rn D' κ' w = some (.inl (1, 1, .inr (.inl f))) := by rw [hv w (Or.inr (Or.inr rfl))]; exact I.2.2.2.2.1
  refine X_aload_n C dL_law_1360 rfl ?_
  refine L_arg E (i := 6 * n) (j := 1) rfl rfl (by decide) (by omega) dL_law_1361 dL_law_1362 dL_law_1364 dL_law_1365 dL_law_1366 ?_
  refine X_callV (As := [.int (xs (6 * n + 1))]) (rest := [.int rr]) (P := mP (r, ad, rn D' κ', z1) (some (.int rr)) σ' τ') C (Mo_toss_c (M := (r, ad, rn D' κ', z1)) e2 (rn D' κ') hMo) wLa_146 ⟨by decide, by decide⟩ ⟨by omega, by omega⟩ hMo.1 oMo.2.1 rfl rfl (Nat.le_of_ble_eq_true rfl) dL_law_1367 (fun v2 h2 z2 q2 => ?_)
  obtain ⟨rfl, hM2, rfl⟩ := q2
  refine X_icmp_eq C (tgt := 1375) dL_law_1370 (by decide) (fun _ => ?_) (fun t => absurd rfl t)
  exact nx _ κ' σ' τ' h2 _ (cs + 1 + 0) (ss + 6 + 0) (LI_fin (PR_z pr hz) o' hM2 (by rw [LI_w hM2 hne]; exact hw) hk hne (fun _ _ => rfl)) (by unfold cB; omega) (by unfold sB; omega)
end LC3
