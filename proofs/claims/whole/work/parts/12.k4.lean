def Ti_count_f (n : Nat) (o : Nat) (x1 : Int32) (h : xH) : Option (Int32 × xH) := (if x1 = 0 then obd (gq h (o) 4 0) (fun w2 => obd w2 (fun a7 => obd (gi h (a7) 3 1) (fun u8 => some (u8, h)))) else (if x1 = 1 then obd (gq h (o) 4 0) (fun w14 => obd w14 (fun a19 => obd (gi h (a19) 3 3) (fun u20 => some (u20, h)))) else (if x1 = 2 then obd (gq h (o) 4 0) (fun w26 => obd w26 (fun a31 => obd (gi h (a31) 3 4) (fun u32 => some (u32, h)))) else (if x1 = 3 then obd (gq h (o) 4 0) (fun w38 => obd w38 (fun a43 => obd (gi h (a43) 3 5) (fun u44 => some (u44, h)))) else (if x1 = 4 then obd (gq h (o) 4 0) (fun w50 => obd w50 (fun a55 => obd (gi h (a55) 3 6) (fun u56 => some (u56, h)))) else (if x1 = 5 then obd (gq h (o) 4 0) (fun w62 => obd w62 (fun a67 => obd (gi h (a67) 3 8) (fun u68 => (if u68 = 0 then some (((-2) : Int32), h) else obd (gq h (o) 4 0) (fun w74 => obd w74 (fun a79 => obd (gq h (a79) 3 9) (fun w80 => obd w80 (fun a85 => obd (ai h (a85) 0 ((x1) - ((4 : Int32)))) (fun u86 => some (u86, h)))))))))) else (if x1 = 6 then obd (gq h (o) 4 0) (fun w94 => obd w94 (fun a99 => obd (gi h (a99) 3 8) (fun u100 => (if u100 = 0 then some (((-2) : Int32), h) else obd (gq h (o) 4 0) (fun w106 => obd w106 (fun a111 => obd (gq h (a111) 3 9) (fun w112 => obd w112 (fun a117 => obd (ai h (a117) 0 ((x1) - ((4 : Int32)))) (fun u118 => some (u118, h)))))))))) else (if x1 = 7 then obd (gq h (o) 4 0) (fun w126 => obd w126 (fun a131 => obd (gi h (a131) 3 8) (fun u132 => (if u132 = 0 then some (((-2) : Int32), h) else obd (gq h (o) 4 0) (fun w138 => obd w138 (fun a143 => obd (gq h (a143) 3 9) (fun w144 => obd w144 (fun a149 => obd (ai h (a149) 0 ((x1) - ((4 : Int32)))) (fun u150 => some (u150, h)))))))))) else some (((-1) : Int32), h)))))))))
set_option maxRecDepth 100000 in
set_option maxHeartbeats 8000000 in
theorem Ti_count_x {F : xF} {G : xG} {B sz : Nat} {o : Nat} (C : xC F G B cTi_count RTi 2 0 0 0 0) (hr : (xFM F).sig.returnType = (some .int)) {n : Nat} {x1 : Int32} {h : xH} {R : Int32 × xH} (hR : Ti_count_f n o x1 h = some R) : X F G B (xZ F G B (kP (some (.int R.1)) R.2 sz) 0 0) 2 h sz 0 0 0 [(0, .ref (o)), (1, .int (x1))] [] := by
  unfold Ti_count_f at hR
  refine X_iload_n C dTi_count_0 rfl ?_
  by_cases c1 : x1 = 0
  · rw [if_pos c1] at hR
    refine X_tableIn (off := 47) (tgt := 48) C dTi_count_1 (by rw [c1]; decide) (by rw [c1]; decide) (by rw [c1]; rfl) (by decide) ?_
    refine X_aload_n C dTi_count_48 rfl ?_
    have hq := o_bind hR
    clear hR
    obtain ⟨w2, hx6, hR⟩ := hq
    obtain ⟨fs3, he4, hv5⟩ := gq_e hx6
    refine X_get (k := 0) C oTi fwTi_10 he4 hv5 dTi_count_49 ?_
    have hq := o_bind hR
    clear hR
    obtain ⟨a7, rfl, hR⟩ := hq
    have hq := o_bind hR
    clear hR
    obtain ⟨u8, hx12, hR⟩ := hq
    obtain ⟨fs9, he10, hv11⟩ := gi_e hx12
    refine X_get (k := 1) C oYa fwTi_38 he10 hv11 dTi_count_52 ?_
    rw [← Option.some.inj hR]
    exact X_iret C hr (Nat.le_refl _) (Nat.le_refl _) dTi_count_55 ⟨rfl, rfl, rfl⟩
  · rw [if_neg c1] at hR
    by_cases c13 : x1 = 1
    · rw [if_pos c13] at hR
      refine X_tableIn (off := 55) (tgt := 56) C dTi_count_1 (by rw [c13]; decide) (by rw [c13]; decide) (by rw [c13]; rfl) (by decide) ?_
      refine X_aload_n C dTi_count_56 rfl ?_
      have hq := o_bind hR
      clear hR
      obtain ⟨w14, hx18, hR⟩ := hq
      obtain ⟨fs15, he16, hv17⟩ := gq_e hx18
      refine X_get (k := 0) C oTi fwTi_10 he16 hv17 dTi_count_57 ?_
      have hq := o_bind hR
      clear hR
      obtain ⟨a19, rfl, hR⟩ := hq
      have hq := o_bind hR
      clear hR
      obtain ⟨u20, hx24, hR⟩ := hq
      obtain ⟨fs21, he22, hv23⟩ := gi_e hx24
      refine X_get (k := 3) C oYa fwTi_129 he22 hv23 dTi_count_60 ?_
      rw [← Option.some.inj hR]
      exact X_iret C hr (Nat.le_refl _) (Nat.le_refl _) dTi_count_63 ⟨rfl, rfl, rfl⟩
    · rw [if_neg c13] at hR
      by_cases c25 : x1 = 2
      · rw [if_pos c25] at hR
        refine X_tableIn (off := 63) (tgt := 64) C dTi_count_1 (by rw [c25]; decide) (by rw [c25]; decide) (by rw [c25]; rfl) (by decide) ?_
        refine X_aload_n C dTi_count_64 rfl ?_
        have hq := o_bind hR
        clear hR
        obtain ⟨w26, hx30, hR⟩ := hq
        obtain ⟨fs27, he28, hv29⟩ := gq_e hx30
        refine X_get (k := 0) C oTi fwTi_10 he28 hv29 dTi_count_65 ?_
        have hq := o_bind hR
        clear hR
        obtain ⟨a31, rfl, hR⟩ := hq
        have hq := o_bind hR
        clear hR
        obtain ⟨u32, hx36, hR⟩ := hq
        obtain ⟨fs33, he34, hv35⟩ := gi_e hx36
        refine X_get (k := 4) C oYa fwTi_142 he34 hv35 dTi_count_68 ?_
        rw [← Option.some.inj hR]
        exact X_iret C hr (Nat.le_refl _) (Nat.le_refl _) dTi_count_71 ⟨rfl, rfl, rfl⟩
      · rw [if_neg c25] at hR
        by_cases c37 : x1 = 3
        · rw [if_pos c37] at hR
          refine X_tableIn (off := 71) (tgt := 72) C dTi_count_1 (by rw [c37]; decide) (by rw [c37]; decide) (by rw [c37]; rfl) (by decide) ?_
          refine X_aload_n C dTi_count_72 rfl ?_
          have hq := o_bind hR
          clear hR
          obtain ⟨w38, hx42, hR⟩ := hq
          obtain ⟨fs39, he40, hv41⟩ := gq_e hx42
          refine X_get (k := 0) C oTi fwTi_10 he40 hv41 dTi_count_73 ?_
          have hq := o_bind hR
          clear hR
          obtain ⟨a43, rfl, hR⟩ := hq
          have hq := o_bind hR
          clear hR
          obtain ⟨u44, hx48, hR⟩ := hq
          obtain ⟨fs45, he46, hv47⟩ := gi_e hx48
          refine X_get (k := 5) C oYa fwTi_218 he46 hv47 dTi_count_76 ?_
          rw [← Option.some.inj hR]
          exact X_iret C hr (Nat.le_refl _) (Nat.le_refl _) dTi_count_79 ⟨rfl, rfl, rfl⟩
        · rw [if_neg c37] at hR
          by_cases c49 : x1 = 4
          · rw [if_pos c49] at hR
            refine X_tableIn (off := 79) (tgt := 80) C dTi_count_1 (by rw [c49]; decide) (by rw [c49]; decide) (by rw [c49]; rfl) (by decide) ?_
            refine X_aload_n C dTi_count_80 rfl ?_
            have hq := o_bind hR
            clear hR
            obtain ⟨w50, hx54, hR⟩ := hq
            obtain ⟨fs51, he52, hv53⟩ := gq_e hx54
            refine X_get (k := 0) C oTi fwTi_10 he52 hv53 dTi_count_81 ?_
            have hq := o_bind hR
            clear hR
            obtain ⟨a55, rfl, hR⟩ := hq
            have hq := o_bind hR
            clear hR
            obtain ⟨u56, hx60, hR⟩ := hq
            obtain ⟨fs57, he58, hv59⟩ := gi_e hx60
            refine X_get (k := 6) C oYa fwTi_219 he58 hv59 dTi_count_84 ?_
            rw [← Option.some.inj hR]
            exact X_iret C hr (Nat.le_refl _) (Nat.le_refl _) dTi_count_87 ⟨rfl, rfl, rfl⟩
          · rw [if_neg c49] at hR
            by_cases c61 : x1 = 5
            · rw [if_pos c61] at hR
              refine X_tableIn (off := 87) (tgt := 88) C dTi_count_1 (by rw [c61]; decide) (by rw [c61]; decide) (by rw [c61]; rfl) (by decide) ?_
              refine X_aload_n C dTi_count_88 rfl ?_
              have hq := o_bind hR
              clear hR
              obtain ⟨w62, hx66, hR⟩ := hq
              obtain ⟨fs63, he64, hv65⟩ := gq_e hx66
              refine X_get (k := 0) C oTi fwTi_10 he64 hv65 dTi_count_89 ?_
              have hq := o_bind hR
              clear hR
              obtain ⟨a67, rfl, hR⟩ := hq
              have hq := o_bind hR
              clear hR
              obtain ⟨u68, hx72, hR⟩ := hq
              obtain ⟨fs69, he70, hv71⟩ := gi_e hx72
              refine X_get (k := 8) C oYa fwTi_222 he70 hv71 dTi_count_92 ?_
              refine X_if_eq (tgt := 112) C dTi_count_95 (by decide) (fun c73 => ?_) (fun c73 => ?_)
              · rw [if_pos c73] at hR
                refine X_bipush (v := (-2)) C dTi_count_112 (by decide) ?_
                rw [← Option.some.inj hR]
                exact X_iret C hr (Nat.le_refl _) (Nat.le_refl _) dTi_count_114 ⟨rfl, rfl, rfl⟩
              · rw [if_neg c73] at hR
                refine X_aload_n C dTi_count_98 rfl ?_
                have hq := o_bind hR
                clear hR
                obtain ⟨w74, hx78, hR⟩ := hq
                obtain ⟨fs75, he76, hv77⟩ := gq_e hx78
                refine X_get (k := 0) C oTi fwTi_10 he76 hv77 dTi_count_99 ?_
                have hq := o_bind hR
                clear hR
                obtain ⟨a79, rfl, hR⟩ := hq
                have hq := o_bind hR
                clear hR
                obtain ⟨w80, hx84, hR⟩ := hq
                obtain ⟨fs81, he82, hv83⟩ := gq_e hx84
                refine X_get (k := 9) C oYa fwTi_225 he82 hv83 dTi_count_102 ?_
                refine X_iload_n C dTi_count_105 rfl ?_
                refine X_iconst (v := 4) C dTi_count_106 rfl ?_
                refine X_isub C dTi_count_107 ?_
                have hq := o_bind hR
                clear hR
                obtain ⟨a85, rfl, hR⟩ := hq
                have hq := o_bind hR
                clear hR
                obtain ⟨u86, hx87, hR⟩ := hq
                obtain ⟨n88, f89, he90, hi91, e92⟩ := ai_e hx87
                refine X_iald C rfl he90 hi91 dTi_count_108 ?_
                rw [← e92]
                refine X_goto (tgt := 114) C dTi_count_109 (by decide) ?_
                rw [← Option.some.inj hR]
                exact X_iret C hr (Nat.le_refl _) (Nat.le_refl _) dTi_count_114 ⟨rfl, rfl, rfl⟩
            · rw [if_neg c61] at hR
              by_cases c93 : x1 = 6
              · rw [if_pos c93] at hR
                refine X_tableIn (off := 87) (tgt := 88) C dTi_count_1 (by rw [c93]; decide) (by rw [c93]; decide) (by rw [c93]; rfl) (by decide) ?_
                refine X_aload_n C dTi_count_88 rfl ?_
                have hq := o_bind hR
                clear hR
                obtain ⟨w94, hx98, hR⟩ := hq
                obtain ⟨fs95, he96, hv97⟩ := gq_e hx98
                refine X_get (k := 0) C oTi fwTi_10 he96 hv97 dTi_count_89 ?_
                have hq := o_bind hR
                clear hR
                obtain ⟨a99, rfl, hR⟩ := hq
                have hq := o_bind hR
                clear hR
                obtain ⟨u100, hx104, hR⟩ := hq
                obtain ⟨fs101, he102, hv103⟩ := gi_e hx104
                refine X_get (k := 8) C oYa fwTi_222 he102 hv103 dTi_count_92 ?_
                refine X_if_eq (tgt := 112) C dTi_count_95 (by decide) (fun c105 => ?_) (fun c105 => ?_)
                · rw [if_pos c105] at hR
                  refine X_bipush (v := (-2)) C dTi_count_112 (by decide) ?_
                  rw [← Option.some.inj hR]
                  exact X_iret C hr (Nat.le_refl _) (Nat.le_refl _) dTi_count_114 ⟨rfl, rfl, rfl⟩
                · rw [if_neg c105] at hR
                  refine X_aload_n C dTi_count_98 rfl ?_
                  have hq := o_bind hR
                  clear hR
                  obtain ⟨w106, hx110, hR⟩ := hq
                  obtain ⟨fs107, he108, hv109⟩ := gq_e hx110
                  refine X_get (k := 0) C oTi fwTi_10 he108 hv109 dTi_count_99 ?_
                  have hq := o_bind hR
                  clear hR
                  obtain ⟨a111, rfl, hR⟩ := hq
                  have hq := o_bind hR
                  clear hR
                  obtain ⟨w112, hx116, hR⟩ := hq
                  obtain ⟨fs113, he114, hv115⟩ := gq_e hx116
                  refine X_get (k := 9) C oYa fwTi_225 he114 hv115 dTi_count_102 ?_
                  refine X_iload_n C dTi_count_105 rfl ?_
                  refine X_iconst (v := 4) C dTi_count_106 rfl ?_
                  refine X_isub C dTi_count_107 ?_
                  have hq := o_bind hR
                  clear hR
                  obtain ⟨a117, rfl, hR⟩ := hq
                  have hq := o_bind hR
                  clear hR
                  obtain ⟨u118, hx119, hR⟩ := hq
                  obtain ⟨n120, f121, he122, hi123, e124⟩ := ai_e hx119
                  refine X_iald C rfl he122 hi123 dTi_count_108 ?_
                  rw [← e124]
                  refine X_goto (tgt := 114) C dTi_count_109 (by decide) ?_
                  rw [← Option.some.inj hR]
                  exact X_iret C hr (Nat.le_refl _) (Nat.le_refl _) dTi_count_114 ⟨rfl, rfl, rfl⟩
              · rw [if_neg c93] at hR
                by_cases c125 : x1 = 7
                · rw [if_pos c125] at hR
                  refine X_tableIn (off := 87) (tgt := 88) C dTi_count_1 (by rw [c125]; decide) (by rw [c125]; decide) (by rw [c125]; rfl) (by decide) ?_
                  refine X_aload_n C dTi_count_88 rfl ?_
                  have hq := o_bind hR
                  clear hR
                  obtain ⟨w126, hx130, hR⟩ := hq
                  obtain ⟨fs127, he128, hv129⟩ := gq_e hx130
                  refine X_get (k := 0) C oTi fwTi_10 he128 hv129 dTi_count_89 ?_
                  have hq := o_bind hR
                  clear hR
                  obtain ⟨a131, rfl, hR⟩ := hq
                  have hq := o_bind hR
                  clear hR
                  obtain ⟨u132, hx136, hR⟩ := hq
                  obtain ⟨fs133, he134, hv135⟩ := gi_e hx136
                  refine X_get (k := 8) C oYa fwTi_222 he134 hv135 dTi_count_92 ?_
                  refine X_if_eq (tgt := 112) C dTi_count_95 (by decide) (fun c137 => ?_) (fun c137 => ?_)
                  · rw [if_pos c137] at hR
                    refine X_bipush (v := (-2)) C dTi_count_112 (by decide) ?_
                    rw [← Option.some.inj hR]
                    exact X_iret C hr (Nat.le_refl _) (Nat.le_refl _) dTi_count_114 ⟨rfl, rfl, rfl⟩
                  · rw [if_neg c137] at hR
                    refine X_aload_n C dTi_count_98 rfl ?_
                    have hq := o_bind hR
                    clear hR
                    obtain ⟨w138, hx142, hR⟩ := hq
                    obtain ⟨fs139, he140, hv141⟩ := gq_e hx142
                    refine X_get (k := 0) C oTi fwTi_10 he140 hv141 dTi_count_99 ?_
                    have hq := o_bind hR
                    clear hR
                    obtain ⟨a143, rfl, hR⟩ := hq
                    have hq := o_bind hR
                    clear hR
                    obtain ⟨w144, hx148, hR⟩ := hq
                    obtain ⟨fs145, he146, hv147⟩ := gq_e hx148
                    refine X_get (k := 9) C oYa fwTi_225 he146 hv147 dTi_count_102 ?_
                    refine X_iload_n C dTi_count_105 rfl ?_
                    refine X_iconst (v := 4) C dTi_count_106 rfl ?_
                    refine X_isub C dTi_count_107 ?_
                    have hq := o_bind hR
                    clear hR
                    obtain ⟨a149, rfl, hR⟩ := hq
                    have hq := o_bind hR
                    clear hR
                    obtain ⟨u150, hx151, hR⟩ := hq
                    obtain ⟨n152, f153, he154, hi155, e156⟩ := ai_e hx151
                    refine X_iald C rfl he154 hi155 dTi_count_108 ?_
                    rw [← e156]
                    refine X_goto (tgt := 114) C dTi_count_109 (by decide) ?_
                    rw [← Option.some.inj hR]
                    exact X_iret C hr (Nat.le_refl _) (Nat.le_refl _) dTi_count_114 ⟨rfl, rfl, rfl⟩
                · rw [if_neg c125] at hR
                  have ec1 := lv_neT (a := 0) c1 (by decide)
                  have ec13 := lv_neT (a := 1) c13 (by decide)
                  have ec25 := lv_neT (a := 2) c25 (by decide)
                  have ec37 := lv_neT (a := 3) c37 (by decide)
                  have ec49 := lv_neT (a := 4) c49 (by decide)
                  have ec61 := lv_neT (a := 5) c61 (by decide)
                  have ec93 := lv_neT (a := 6) c93 (by decide)
                  have ec125 := lv_neT (a := 7) c125 (by decide)
                  refine X_tableOut (tgt := 115) C dTi_count_1 (by omega) (by decide) ?_
                  refine X_iconst (v := (-1)) C dTi_count_115 rfl ?_
                  rw [← Option.some.inj hR]
                  exact X_iret C hr (Nat.le_refl _) (Nat.le_refl _) dTi_count_116 ⟨rfl, rfl, rfl⟩
theorem Ti_count_c {l : Launch} {G : xG} {B sz : Nat} {o : Nat} {n : Nat} {x1 : Int32} {h : xH} {R : Int32 × xH} (hR : Ti_count_f n o x1 h = some R) : xCon l yTi_count cTi_count 2 (some .int) 0 0 0 0 G B [.ref (o), .int (x1)] h sz (kP (some (.int R.1)) R.2 sz) := xCon.of (by decide) (by exact Nat.le_of_ble_eq_true rfl) (fun F e C hr _ => X_sub (lv' := [(0, .ref (o)), (1, .int (x1))]) [0, 1] rfl (Ti_count_x C hr hR))
def Ti_isShelf_f (n : Nat) (x0 : Int32) (h : xH) : Option (Int32 × xH) := (if x0 < 0 then some ((0 : Int32), h) else (if (8 : Int32) ≤ x0 then some ((0 : Int32), h) else some ((1 : Int32), h)))
set_option maxRecDepth 100000 in
set_option maxHeartbeats 8000000 in
theorem Ti_isShelf_x {F : xF} {G : xG} {B sz : Nat} (C : xC F G B cTi_isShelf RTi 1 0 0 0 0) (hr : (xFM F).sig.returnType = (some .boolean)) {n : Nat} {x0 : Int32} {h : xH} {R : Int32 × xH} (hR : Ti_isShelf_f n x0 h = some R) : X F G B (xZ F G B (kP (some (.int R.1)) R.2 sz) 0 0) 1 h sz 0 0 0 [(0, .int (x0))] [] := by
  unfold Ti_isShelf_f at hR
  refine X_iload_n C dTi_isShelf_0 rfl ?_
  refine X_if_lt (tgt := 14) C dTi_isShelf_1 (by decide) (fun c1 => ?_) (fun c1 => ?_)
  · rw [if_pos c1] at hR
    refine X_iconst (v := 0) C dTi_isShelf_14 rfl ?_
    rw [← Option.some.inj hR]
    exact X_zret C hr rfl (Nat.le_refl _) (Nat.le_refl _) dTi_isShelf_15 ⟨rfl, rfl, rfl⟩
  · rw [if_neg c1] at hR
    refine X_iload_n C dTi_isShelf_4 rfl ?_
    refine X_bipush (v := 8) C dTi_isShelf_5 (by decide) ?_
    refine X_icmp_ge (tgt := 14) C dTi_isShelf_7 (by decide) (fun c2 => ?_) (fun c2 => ?_)
    · rw [if_pos c2] at hR
      refine X_iconst (v := 0) C dTi_isShelf_14 rfl ?_
      rw [← Option.some.inj hR]
      exact X_zret C hr rfl (Nat.le_refl _) (Nat.le_refl _) dTi_isShelf_15 ⟨rfl, rfl, rfl⟩
    · rw [if_neg c2] at hR
      refine X_iconst (v := 1) C dTi_isShelf_10 rfl ?_
      refine X_goto (tgt := 15) C dTi_isShelf_11 (by decide) ?_
      rw [← Option.some.inj hR]
      exact X_zret C hr rfl (Nat.le_refl _) (Nat.le_refl _) dTi_isShelf_15 ⟨rfl, rfl, rfl⟩
theorem Ti_isShelf_c {l : Launch} {G : xG} {B sz : Nat} {n : Nat} {x0 : Int32} {h : xH} {R : Int32 × xH} (hR : Ti_isShelf_f n x0 h = some R) : xCon l yTi_isShelf cTi_isShelf 1 (some .boolean) 0 0 0 0 G B [.int (x0)] h sz (kP (some (.int R.1)) R.2 sz) := xCon.of (by decide) (by exact Nat.le_of_ble_eq_true rfl) (fun F e C hr _ => X_sub (lv' := [(0, .int (x0))]) [0] rfl (Ti_isShelf_x C hr hR))
