/-! decode rows -/
theorem dHe_init_0 : decode cHe_init 0 = .ok (.aload_n 0, 1) := by decide +kernel
theorem dHe_init_1 : decode cHe_init 1 = .ok (.invokespecial 1, 3) := by decide +kernel
theorem dHe_init_4 : decode cHe_init 4 = .ok (.return_, 1) := by decide +kernel
theorem dLr_init_0 : decode cLr_init 0 = .ok (.aload_n 0, 1) := by decide +kernel
theorem dLr_init_1 : decode cLr_init 1 = .ok (.invokespecial 1, 3) := by decide +kernel
theorem dLr_init_4 : decode cLr_init 4 = .ok (.aload_n 0, 1) := by decide +kernel
theorem dLr_init_5 : decode cLr_init 5 = .ok (.aload_n 1, 1) := by decide +kernel
theorem dLr_init_6 : decode cLr_init 6 = .ok (.putfield 7, 3) := by decide +kernel
theorem dLr_init_9 : decode cLr_init 9 = .ok (.return_, 1) := by decide +kernel
theorem dLr_size_0 : decode cLr_size 0 = .ok (.aload_n 0, 1) := by decide +kernel
theorem dLr_size_1 : decode cLr_size 1 = .ok (.getfield 7, 3) := by decide +kernel
theorem dLr_size_4 : decode cLr_size 4 = .ok (.arraylength, 1) := by decide +kernel
theorem dLr_size_5 : decode cLr_size 5 = .ok (.ireturn, 1) := by decide +kernel
theorem dLr_valueAt_0 : decode cLr_valueAt 0 = .ok (.iload_n 1, 1) := by decide +kernel
theorem dLr_valueAt_1 : decode cLr_valueAt 1 = .ok (.ifCond .lt 21, 3) := by decide +kernel
theorem dLr_valueAt_4 : decode cLr_valueAt 4 = .ok (.iload_n 1, 1) := by decide +kernel
theorem dLr_valueAt_5 : decode cLr_valueAt 5 = .ok (.aload_n 0, 1) := by decide +kernel
theorem dLr_valueAt_6 : decode cLr_valueAt 6 = .ok (.getfield 7, 3) := by decide +kernel
theorem dLr_valueAt_9 : decode cLr_valueAt 9 = .ok (.arraylength, 1) := by decide +kernel
theorem dLr_valueAt_10 : decode cLr_valueAt 10 = .ok (.if_icmp .ge 12, 3) := by decide +kernel
theorem dLr_valueAt_13 : decode cLr_valueAt 13 = .ok (.aload_n 0, 1) := by decide +kernel
theorem dLr_valueAt_14 : decode cLr_valueAt 14 = .ok (.getfield 7, 3) := by decide +kernel
theorem dLr_valueAt_17 : decode cLr_valueAt 17 = .ok (.iload_n 1, 1) := by decide +kernel
theorem dLr_valueAt_18 : decode cLr_valueAt 18 = .ok (.laload, 1) := by decide +kernel
theorem dLr_valueAt_19 : decode cLr_valueAt 19 = .ok (.goto 4, 3) := by decide +kernel
theorem dLr_valueAt_22 : decode cLr_valueAt 22 = .ok (.lconst 0, 1) := by decide +kernel
theorem dLr_valueAt_23 : decode cLr_valueAt 23 = .ok (.lreturn, 1) := by decide +kernel
theorem dLr_isOfKind_0 : decode cLr_isOfKind 0 = .ok (.aload_n 1, 1) := by decide +kernel
theorem dLr_isOfKind_1 : decode cLr_isOfKind 1 = .ok (.instanceof 8, 3) := by decide +kernel
theorem dLr_isOfKind_4 : decode cLr_isOfKind 4 = .ok (.ireturn, 1) := by decide +kernel
theorem dLr_giveTo_0 : decode cLr_giveTo 0 = .ok (.aload_n 2, 1) := by decide +kernel
theorem dLr_giveTo_1 : decode cLr_giveTo 1 = .ok (.instanceof 8, 3) := by decide +kernel
theorem dLr_giveTo_4 : decode cLr_giveTo 4 = .ok (.ifCond .eq 25, 3) := by decide +kernel
theorem dLr_giveTo_7 : decode cLr_giveTo 7 = .ok (.aload_n 2, 1) := by decide +kernel
theorem dLr_giveTo_8 : decode cLr_giveTo 8 = .ok (.checkcast 8, 3) := by decide +kernel
theorem dLr_giveTo_11 : decode cLr_giveTo 11 = .ok (.astore 5, 2) := by decide +kernel
theorem dLr_giveTo_13 : decode cLr_giveTo 13 = .ok (.aload_n 0, 1) := by decide +kernel
theorem dLr_giveTo_14 : decode cLr_giveTo 14 = .ok (.getfield 7, 3) := by decide +kernel
theorem dLr_giveTo_17 : decode cLr_giveTo 17 = .ok (.iload_n 1, 1) := by decide +kernel
theorem dLr_giveTo_18 : decode cLr_giveTo 18 = .ok (.aload 5, 2) := by decide +kernel
theorem dLr_giveTo_20 : decode cLr_giveTo 20 = .ok (.getfield 7, 3) := by decide +kernel
theorem dLr_giveTo_23 : decode cLr_giveTo 23 = .ok (.iload_n 3, 1) := by decide +kernel
theorem dLr_giveTo_24 : decode cLr_giveTo 24 = .ok (.iload 4, 2) := by decide +kernel
theorem dLr_giveTo_26 : decode cLr_giveTo 26 = .ok (.invokestatic 13, 3) := by decide +kernel
theorem dLr_giveTo_29 : decode cLr_giveTo 29 = .ok (.return_, 1) := by decide +kernel
theorem dMa_init_0 : decode cMa_init 0 = .ok (.aload_n 0, 1) := by decide +kernel
theorem dMa_init_1 : decode cMa_init 1 = .ok (.invokespecial 3, 3) := by decide +kernel
theorem dMa_init_4 : decode cMa_init 4 = .ok (.aload_n 0, 1) := by decide +kernel
theorem dMa_init_5 : decode cMa_init 5 = .ok (.bipush 6, 2) := by decide +kernel
theorem dMa_init_7 : decode cMa_init 7 = .ok (.anewarray 9, 3) := by decide +kernel
theorem dMa_init_10 : decode cMa_init 10 = .ok (.putfield 11, 3) := by decide +kernel
theorem dMa_init_13 : decode cMa_init 13 = .ok (.aload_n 0, 1) := by decide +kernel
theorem dMa_init_14 : decode cMa_init 14 = .ok (.bipush 12, 2) := by decide +kernel
theorem dMa_init_16 : decode cMa_init 16 = .ok (.anewarray 17, 3) := by decide +kernel
theorem dMa_init_19 : decode cMa_init 19 = .ok (.putfield 19, 3) := by decide +kernel
theorem dMa_init_22 : decode cMa_init 22 = .ok (.return_, 1) := by decide +kernel
theorem dPl_init_0 : decode cPl_init 0 = .ok (.aload_n 0, 1) := by decide +kernel
theorem dPl_init_1 : decode cPl_init 1 = .ok (.invokespecial 3, 3) := by decide +kernel
theorem dPl_init_4 : decode cPl_init 4 = .ok (.aload_n 0, 1) := by decide +kernel
theorem dPl_init_5 : decode cPl_init 5 = .ok (.iconst 2, 1) := by decide +kernel
theorem dPl_init_6 : decode cPl_init 6 = .ok (.newarray .int, 2) := by decide +kernel
theorem dPl_init_8 : decode cPl_init 8 = .ok (.putfield 9, 3) := by decide +kernel
theorem dPl_init_11 : decode cPl_init 11 = .ok (.aload_n 0, 1) := by decide +kernel
theorem dPl_init_12 : decode cPl_init 12 = .ok (.iconst 2, 1) := by decide +kernel
theorem dPl_init_13 : decode cPl_init 13 = .ok (.newarray .int, 2) := by decide +kernel
theorem dPl_init_15 : decode cPl_init 15 = .ok (.putfield 15, 3) := by decide +kernel
theorem dPl_init_18 : decode cPl_init 18 = .ok (.return_, 1) := by decide +kernel
theorem dPl_asItIs_0 : decode cPl_asItIs 0 = .ok (.new 10, 3) := by decide +kernel
theorem dPl_asItIs_3 : decode cPl_asItIs 3 = .ok (.dup, 1) := by decide +kernel
theorem dPl_asItIs_4 : decode cPl_asItIs 4 = .ok (.invokespecial 18, 3) := by decide +kernel
theorem dPl_asItIs_7 : decode cPl_asItIs 7 = .ok (.astore_n 1, 1) := by decide +kernel
theorem dPl_asItIs_8 : decode cPl_asItIs 8 = .ok (.aload_n 0, 1) := by decide +kernel
theorem dPl_asItIs_9 : decode cPl_asItIs 9 = .ok (.getfield 9, 3) := by decide +kernel
theorem dPl_asItIs_12 : decode cPl_asItIs 12 = .ok (.iconst 0, 1) := by decide +kernel
theorem dPl_asItIs_13 : decode cPl_asItIs 13 = .ok (.aload_n 1, 1) := by decide +kernel
theorem dPl_asItIs_14 : decode cPl_asItIs 14 = .ok (.getfield 9, 3) := by decide +kernel
theorem dPl_asItIs_17 : decode cPl_asItIs 17 = .ok (.iconst 0, 1) := by decide +kernel
theorem dPl_asItIs_18 : decode cPl_asItIs 18 = .ok (.iconst 2, 1) := by decide +kernel
theorem dPl_asItIs_19 : decode cPl_asItIs 19 = .ok (.invokestatic 19, 3) := by decide +kernel
theorem dPl_asItIs_22 : decode cPl_asItIs 22 = .ok (.aload_n 0, 1) := by decide +kernel
theorem dPl_asItIs_23 : decode cPl_asItIs 23 = .ok (.getfield 15, 3) := by decide +kernel
theorem dPl_asItIs_26 : decode cPl_asItIs 26 = .ok (.iconst 0, 1) := by decide +kernel
theorem dPl_asItIs_27 : decode cPl_asItIs 27 = .ok (.aload_n 1, 1) := by decide +kernel
theorem dPl_asItIs_28 : decode cPl_asItIs 28 = .ok (.getfield 15, 3) := by decide +kernel
theorem dPl_asItIs_31 : decode cPl_asItIs 31 = .ok (.iconst 0, 1) := by decide +kernel
theorem dPl_asItIs_32 : decode cPl_asItIs 32 = .ok (.iconst 2, 1) := by decide +kernel
theorem dPl_asItIs_33 : decode cPl_asItIs 33 = .ok (.invokestatic 19, 3) := by decide +kernel
theorem dPl_asItIs_36 : decode cPl_asItIs 36 = .ok (.aload_n 1, 1) := by decide +kernel
theorem dPl_asItIs_37 : decode cPl_asItIs 37 = .ok (.aload_n 0, 1) := by decide +kernel
theorem dPl_asItIs_38 : decode cPl_asItIs 38 = .ok (.getfield 25, 3) := by decide +kernel
theorem dPl_asItIs_41 : decode cPl_asItIs 41 = .ok (.putfield 25, 3) := by decide +kernel
theorem dPl_asItIs_44 : decode cPl_asItIs 44 = .ok (.aload_n 1, 1) := by decide +kernel
theorem dPl_asItIs_45 : decode cPl_asItIs 45 = .ok (.areturn, 1) := by decide +kernel
theorem dPl_heft_0 : decode cPl_heft 0 = .ok (.iconst 3, 1) := by decide +kernel
theorem dPl_heft_1 : decode cPl_heft 1 = .ok (.aload_n 0, 1) := by decide +kernel
theorem dPl_heft_2 : decode cPl_heft 2 = .ok (.getfield 25, 3) := by decide +kernel
theorem dPl_heft_5 : decode cPl_heft 5 = .ok (.iadd, 1) := by decide +kernel
theorem dPl_heft_6 : decode cPl_heft 6 = .ok (.ireturn, 1) := by decide +kernel
theorem dRo_init_0 : decode cRo_init 0 = .ok (.aload_n 0, 1) := by decide +kernel
theorem dRo_init_1 : decode cRo_init 1 = .ok (.invokespecial 3, 3) := by decide +kernel
theorem dRo_init_4 : decode cRo_init 4 = .ok (.return_, 1) := by decide +kernel
theorem dRo_heft_0 : decode cRo_heft 0 = .ok (.bipush (-12), 2) := by decide +kernel
theorem dRo_heft_2 : decode cRo_heft 2 = .ok (.ireturn, 1) := by decide +kernel
theorem dSr_init_0 : decode cSr_init 0 = .ok (.aload_n 0, 1) := by decide +kernel
theorem dSr_init_1 : decode cSr_init 1 = .ok (.invokespecial 1, 3) := by decide +kernel
theorem dSr_init_4 : decode cSr_init 4 = .ok (.aload_n 0, 1) := by decide +kernel
theorem dSr_init_5 : decode cSr_init 5 = .ok (.aload_n 1, 1) := by decide +kernel
theorem dSr_init_6 : decode cSr_init 6 = .ok (.putfield 7, 3) := by decide +kernel
theorem dSr_init_9 : decode cSr_init 9 = .ok (.return_, 1) := by decide +kernel
theorem dSr_size_0 : decode cSr_size 0 = .ok (.aload_n 0, 1) := by decide +kernel
theorem dSr_size_1 : decode cSr_size 1 = .ok (.getfield 7, 3) := by decide +kernel
theorem dSr_size_4 : decode cSr_size 4 = .ok (.arraylength, 1) := by decide +kernel
theorem dSr_size_5 : decode cSr_size 5 = .ok (.ireturn, 1) := by decide +kernel
theorem dSr_valueAt_0 : decode cSr_valueAt 0 = .ok (.iload_n 1, 1) := by decide +kernel
theorem dSr_valueAt_1 : decode cSr_valueAt 1 = .ok (.ifCond .lt 22, 3) := by decide +kernel
theorem dSr_valueAt_4 : decode cSr_valueAt 4 = .ok (.iload_n 1, 1) := by decide +kernel
theorem dSr_valueAt_5 : decode cSr_valueAt 5 = .ok (.aload_n 0, 1) := by decide +kernel
theorem dSr_valueAt_6 : decode cSr_valueAt 6 = .ok (.getfield 7, 3) := by decide +kernel
theorem dSr_valueAt_9 : decode cSr_valueAt 9 = .ok (.arraylength, 1) := by decide +kernel
theorem dSr_valueAt_10 : decode cSr_valueAt 10 = .ok (.if_icmp .ge 13, 3) := by decide +kernel
theorem dSr_valueAt_13 : decode cSr_valueAt 13 = .ok (.aload_n 0, 1) := by decide +kernel
theorem dSr_valueAt_14 : decode cSr_valueAt 14 = .ok (.getfield 7, 3) := by decide +kernel
theorem dSr_valueAt_17 : decode cSr_valueAt 17 = .ok (.iload_n 1, 1) := by decide +kernel
theorem dSr_valueAt_18 : decode cSr_valueAt 18 = .ok (.saload, 1) := by decide +kernel
theorem dSr_valueAt_19 : decode cSr_valueAt 19 = .ok (.i2l, 1) := by decide +kernel
theorem dSr_valueAt_20 : decode cSr_valueAt 20 = .ok (.goto 4, 3) := by decide +kernel
theorem dSr_valueAt_23 : decode cSr_valueAt 23 = .ok (.lconst 0, 1) := by decide +kernel
theorem dSr_valueAt_24 : decode cSr_valueAt 24 = .ok (.lreturn, 1) := by decide +kernel
theorem dSr_isOfKind_0 : decode cSr_isOfKind 0 = .ok (.aload_n 1, 1) := by decide +kernel
theorem dSr_isOfKind_1 : decode cSr_isOfKind 1 = .ok (.instanceof 8, 3) := by decide +kernel
theorem dSr_isOfKind_4 : decode cSr_isOfKind 4 = .ok (.ireturn, 1) := by decide +kernel
theorem dSr_giveTo_0 : decode cSr_giveTo 0 = .ok (.aload_n 2, 1) := by decide +kernel
theorem dSr_giveTo_1 : decode cSr_giveTo 1 = .ok (.instanceof 8, 3) := by decide +kernel
theorem dSr_giveTo_4 : decode cSr_giveTo 4 = .ok (.ifCond .eq 25, 3) := by decide +kernel
theorem dSr_giveTo_7 : decode cSr_giveTo 7 = .ok (.aload_n 2, 1) := by decide +kernel
theorem dSr_giveTo_8 : decode cSr_giveTo 8 = .ok (.checkcast 8, 3) := by decide +kernel
theorem dSr_giveTo_11 : decode cSr_giveTo 11 = .ok (.astore 5, 2) := by decide +kernel
theorem dSr_giveTo_13 : decode cSr_giveTo 13 = .ok (.aload_n 0, 1) := by decide +kernel
theorem dSr_giveTo_14 : decode cSr_giveTo 14 = .ok (.getfield 7, 3) := by decide +kernel
theorem dSr_giveTo_17 : decode cSr_giveTo 17 = .ok (.iload_n 1, 1) := by decide +kernel
theorem dSr_giveTo_18 : decode cSr_giveTo 18 = .ok (.aload 5, 2) := by decide +kernel
theorem dSr_giveTo_20 : decode cSr_giveTo 20 = .ok (.getfield 7, 3) := by decide +kernel
theorem dSr_giveTo_23 : decode cSr_giveTo 23 = .ok (.iload_n 3, 1) := by decide +kernel
theorem dSr_giveTo_24 : decode cSr_giveTo 24 = .ok (.iload 4, 2) := by decide +kernel
theorem dSr_giveTo_26 : decode cSr_giveTo 26 = .ok (.invokestatic 13, 3) := by decide +kernel
theorem dSr_giveTo_29 : decode cSr_giveTo 29 = .ok (.return_, 1) := by decide +kernel
theorem dSt_init_0 : decode cSt_init 0 = .ok (.aload_n 0, 1) := by decide +kernel
theorem dSt_init_1 : decode cSt_init 1 = .ok (.invokespecial 3, 3) := by decide +kernel
theorem dSt_init_4 : decode cSt_init 4 = .ok (.aload_n 0, 1) := by decide +kernel
theorem dSt_init_5 : decode cSt_init 5 = .ok (.iconst 3, 1) := by decide +kernel
theorem dSt_init_6 : decode cSt_init 6 = .ok (.newarray .int, 2) := by decide +kernel
theorem dSt_init_8 : decode cSt_init 8 = .ok (.putfield 9, 3) := by decide +kernel
theorem dSt_init_11 : decode cSt_init 11 = .ok (.aload_n 0, 1) := by decide +kernel
theorem dSt_init_12 : decode cSt_init 12 = .ok (.iconst 4, 1) := by decide +kernel
theorem dSt_init_13 : decode cSt_init 13 = .ok (.newarray .int, 2) := by decide +kernel
theorem dSt_init_15 : decode cSt_init 15 = .ok (.putfield 15, 3) := by decide +kernel
theorem dSt_init_18 : decode cSt_init 18 = .ok (.aload_n 0, 1) := by decide +kernel
theorem dSt_init_19 : decode cSt_init 19 = .ok (.new 18, 3) := by decide +kernel
theorem dSt_init_22 : decode cSt_init 22 = .ok (.dup, 1) := by decide +kernel
theorem dSt_init_23 : decode cSt_init 23 = .ok (.iconst 0, 1) := by decide +kernel
theorem dSt_init_24 : decode cSt_init 24 = .ok (.invokespecial 20, 3) := by decide +kernel
theorem dSt_init_27 : decode cSt_init 27 = .ok (.putfield 23, 3) := by decide +kernel
theorem dSt_init_30 : decode cSt_init 30 = .ok (.aload_n 0, 1) := by decide +kernel
theorem dSt_init_31 : decode cSt_init 31 = .ok (.new 18, 3) := by decide +kernel
theorem dSt_init_34 : decode cSt_init 34 = .ok (.dup, 1) := by decide +kernel
theorem dSt_init_35 : decode cSt_init 35 = .ok (.iconst 1, 1) := by decide +kernel
theorem dSt_init_36 : decode cSt_init 36 = .ok (.invokespecial 20, 3) := by decide +kernel
theorem dSt_init_39 : decode cSt_init 39 = .ok (.putfield 27, 3) := by decide +kernel
theorem dSt_init_42 : decode cSt_init 42 = .ok (.aload_n 0, 1) := by decide +kernel
theorem dSt_init_43 : decode cSt_init 43 = .ok (.iload_n 1, 1) := by decide +kernel
theorem dSt_init_44 : decode cSt_init 44 = .ok (.putfield 30, 3) := by decide +kernel
theorem dSt_init_47 : decode cSt_init 47 = .ok (.return_, 1) := by decide +kernel
theorem dSt_fits_0 : decode cSt_fits 0 = .ok (.iload_n 2, 1) := by decide +kernel
theorem dSt_fits_1 : decode cSt_fits 1 = .ok (.iconst (-1), 1) := by decide +kernel
theorem dSt_fits_2 : decode cSt_fits 2 = .ok (.if_icmp .eq 26, 3) := by decide +kernel
theorem dSt_fits_5 : decode cSt_fits 5 = .ok (.iload_n 1, 1) := by decide +kernel
theorem dSt_fits_6 : decode cSt_fits 6 = .ok (.ifCond .lt 26, 3) := by decide +kernel
theorem dSt_fits_9 : decode cSt_fits 9 = .ok (.iload_n 1, 1) := by decide +kernel
theorem dSt_fits_10 : decode cSt_fits 10 = .ok (.aload_n 0, 1) := by decide +kernel
theorem dSt_fits_11 : decode cSt_fits 11 = .ok (.getfield 9, 3) := by decide +kernel
theorem dSt_fits_14 : decode cSt_fits 14 = .ok (.arraylength, 1) := by decide +kernel
theorem dSt_fits_15 : decode cSt_fits 15 = .ok (.if_icmp .ge 17, 3) := by decide +kernel
theorem dSt_fits_18 : decode cSt_fits 18 = .ok (.aload_n 0, 1) := by decide +kernel
theorem dSt_fits_19 : decode cSt_fits 19 = .ok (.getfield 9, 3) := by decide +kernel
theorem dSt_fits_22 : decode cSt_fits 22 = .ok (.iload_n 1, 1) := by decide +kernel
theorem dSt_fits_23 : decode cSt_fits 23 = .ok (.iaload, 1) := by decide +kernel
theorem dSt_fits_24 : decode cSt_fits 24 = .ok (.iload_n 2, 1) := by decide +kernel
theorem dSt_fits_25 : decode cSt_fits 25 = .ok (.if_icmp .ne 7, 3) := by decide +kernel
theorem dSt_fits_28 : decode cSt_fits 28 = .ok (.iconst 1, 1) := by decide +kernel
theorem dSt_fits_29 : decode cSt_fits 29 = .ok (.goto 4, 3) := by decide +kernel
theorem dSt_fits_32 : decode cSt_fits 32 = .ok (.iconst 0, 1) := by decide +kernel
theorem dSt_fits_33 : decode cSt_fits 33 = .ok (.ireturn, 1) := by decide +kernel
theorem dSt_standsAt_0 : decode cSt_standsAt 0 = .ok (.iconst 0, 1) := by decide +kernel
theorem dSt_standsAt_1 : decode cSt_standsAt 1 = .ok (.istore_n 2, 1) := by decide +kernel
theorem dSt_standsAt_2 : decode cSt_standsAt 2 = .ok (.iload_n 2, 1) := by decide +kernel
theorem dSt_standsAt_3 : decode cSt_standsAt 3 = .ok (.aload_n 0, 1) := by decide +kernel
theorem dSt_standsAt_4 : decode cSt_standsAt 4 = .ok (.getfield 9, 3) := by decide +kernel
theorem dSt_standsAt_7 : decode cSt_standsAt 7 = .ok (.arraylength, 1) := by decide +kernel
theorem dSt_standsAt_8 : decode cSt_standsAt 8 = .ok (.if_icmp .ge 29, 3) := by decide +kernel
theorem dSt_standsAt_11 : decode cSt_standsAt 11 = .ok (.iload_n 2, 1) := by decide +kernel
theorem dSt_standsAt_12 : decode cSt_standsAt 12 = .ok (.aload_n 1, 1) := by decide +kernel
theorem dSt_standsAt_13 : decode cSt_standsAt 13 = .ok (.arraylength, 1) := by decide +kernel
theorem dSt_standsAt_14 : decode cSt_standsAt 14 = .ok (.if_icmp .ge 15, 3) := by decide +kernel
theorem dSt_standsAt_17 : decode cSt_standsAt 17 = .ok (.aload_n 0, 1) := by decide +kernel
theorem dSt_standsAt_18 : decode cSt_standsAt 18 = .ok (.getfield 9, 3) := by decide +kernel
theorem dSt_standsAt_21 : decode cSt_standsAt 21 = .ok (.iload_n 2, 1) := by decide +kernel
theorem dSt_standsAt_22 : decode cSt_standsAt 22 = .ok (.iaload, 1) := by decide +kernel
theorem dSt_standsAt_23 : decode cSt_standsAt 23 = .ok (.aload_n 1, 1) := by decide +kernel
theorem dSt_standsAt_24 : decode cSt_standsAt 24 = .ok (.iload_n 2, 1) := by decide +kernel
theorem dSt_standsAt_25 : decode cSt_standsAt 25 = .ok (.iaload, 1) := by decide +kernel
theorem dSt_standsAt_26 : decode cSt_standsAt 26 = .ok (.if_icmp .eq 5, 3) := by decide +kernel
theorem dSt_standsAt_29 : decode cSt_standsAt 29 = .ok (.iconst 0, 1) := by decide +kernel
theorem dSt_standsAt_30 : decode cSt_standsAt 30 = .ok (.ireturn, 1) := by decide +kernel
theorem dSt_standsAt_31 : decode cSt_standsAt 31 = .ok (.iinc 2 1, 3) := by decide +kernel
theorem dSt_standsAt_34 : decode cSt_standsAt 34 = .ok (.goto (-32), 3) := by decide +kernel
theorem dSt_standsAt_37 : decode cSt_standsAt 37 = .ok (.iconst 1, 1) := by decide +kernel
theorem dSt_standsAt_38 : decode cSt_standsAt 38 = .ok (.ireturn, 1) := by decide +kernel
theorem dSt_comeFrom_0 : decode cSt_comeFrom 0 = .ok (.aload_n 0, 1) := by decide +kernel
theorem dSt_comeFrom_1 : decode cSt_comeFrom 1 = .ok (.aload_n 1, 1) := by decide +kernel
theorem dSt_comeFrom_2 : decode cSt_comeFrom 2 = .ok (.ifnonnull 8, 3) := by decide +kernel
theorem dSt_comeFrom_5 : decode cSt_comeFrom 5 = .ok (.bipush (-2), 2) := by decide +kernel
theorem dSt_comeFrom_7 : decode cSt_comeFrom 7 = .ok (.goto 7, 3) := by decide +kernel
theorem dSt_comeFrom_10 : decode cSt_comeFrom 10 = .ok (.aload_n 1, 1) := by decide +kernel
theorem dSt_comeFrom_11 : decode cSt_comeFrom 11 = .ok (.getfield 30, 3) := by decide +kernel
theorem dSt_comeFrom_14 : decode cSt_comeFrom 14 = .ok (.putfield 34, 3) := by decide +kernel
theorem dSt_comeFrom_17 : decode cSt_comeFrom 17 = .ok (.aload_n 0, 1) := by decide +kernel
theorem dSt_comeFrom_18 : decode cSt_comeFrom 18 = .ok (.aload_n 1, 1) := by decide +kernel
theorem dSt_comeFrom_19 : decode cSt_comeFrom 19 = .ok (.ifnonnull 7, 3) := by decide +kernel
theorem dSt_comeFrom_22 : decode cSt_comeFrom 22 = .ok (.iconst 0, 1) := by decide +kernel
theorem dSt_comeFrom_23 : decode cSt_comeFrom 23 = .ok (.goto 9, 3) := by decide +kernel
theorem dSt_comeFrom_26 : decode cSt_comeFrom 26 = .ok (.aload_n 1, 1) := by decide +kernel
theorem dSt_comeFrom_27 : decode cSt_comeFrom 27 = .ok (.getfield 37, 3) := by decide +kernel
theorem dSt_comeFrom_30 : decode cSt_comeFrom 30 = .ok (.iconst 1, 1) := by decide +kernel
theorem dSt_comeFrom_31 : decode cSt_comeFrom 31 = .ok (.iadd, 1) := by decide +kernel
theorem dSt_comeFrom_32 : decode cSt_comeFrom 32 = .ok (.putfield 37, 3) := by decide +kernel
theorem dSt_comeFrom_35 : decode cSt_comeFrom 35 = .ok (.aload_n 0, 1) := by decide +kernel
theorem dSt_comeFrom_36 : decode cSt_comeFrom 36 = .ok (.iconst 0, 1) := by decide +kernel
theorem dSt_comeFrom_37 : decode cSt_comeFrom 37 = .ok (.putfield 40, 3) := by decide +kernel
theorem dSt_comeFrom_40 : decode cSt_comeFrom 40 = .ok (.aload_n 0, 1) := by decide +kernel
theorem dSt_comeFrom_41 : decode cSt_comeFrom 41 = .ok (.iconst 0, 1) := by decide +kernel
theorem dSt_comeFrom_42 : decode cSt_comeFrom 42 = .ok (.putfield 43, 3) := by decide +kernel
theorem dSt_comeFrom_45 : decode cSt_comeFrom 45 = .ok (.aload_n 0, 1) := by decide +kernel
theorem dSt_comeFrom_46 : decode cSt_comeFrom 46 = .ok (.iconst 0, 1) := by decide +kernel
theorem dSt_comeFrom_47 : decode cSt_comeFrom 47 = .ok (.putfield 46, 3) := by decide +kernel
theorem dSt_comeFrom_50 : decode cSt_comeFrom 50 = .ok (.return_, 1) := by decide +kernel
theorem dWa_init_0 : decode cWa_init 0 = .ok (.aload_n 0, 1) := by decide +kernel
theorem dWa_init_1 : decode cWa_init 1 = .ok (.invokespecial 3, 3) := by decide +kernel
theorem dWa_init_4 : decode cWa_init 4 = .ok (.aload_n 0, 1) := by decide +kernel
theorem dWa_init_5 : decode cWa_init 5 = .ok (.iconst 3, 1) := by decide +kernel
theorem dWa_init_6 : decode cWa_init 6 = .ok (.newarray .int, 2) := by decide +kernel
theorem dWa_init_8 : decode cWa_init 8 = .ok (.putfield 9, 3) := by decide +kernel
theorem dWa_init_11 : decode cWa_init 11 = .ok (.aload_n 0, 1) := by decide +kernel
theorem dWa_init_12 : decode cWa_init 12 = .ok (.iconst 3, 1) := by decide +kernel
theorem dWa_init_13 : decode cWa_init 13 = .ok (.newarray .int, 2) := by decide +kernel
theorem dWa_init_15 : decode cWa_init 15 = .ok (.putfield 15, 3) := by decide +kernel
theorem dWa_init_18 : decode cWa_init 18 = .ok (.aload_n 0, 1) := by decide +kernel
theorem dWa_init_19 : decode cWa_init 19 = .ok (.iload_n 1, 1) := by decide +kernel
theorem dWa_init_20 : decode cWa_init 20 = .ok (.putfield 18, 3) := by decide +kernel
theorem dWa_init_23 : decode cWa_init 23 = .ok (.aload_n 0, 1) := by decide +kernel
theorem dWa_init_24 : decode cWa_init 24 = .ok (.iload_n 2, 1) := by decide +kernel
theorem dWa_init_25 : decode cWa_init 25 = .ok (.putfield 22, 3) := by decide +kernel
theorem dWa_init_28 : decode cWa_init 28 = .ok (.aload_n 0, 1) := by decide +kernel
theorem dWa_init_29 : decode cWa_init 29 = .ok (.iload_n 3, 1) := by decide +kernel
theorem dWa_init_30 : decode cWa_init 30 = .ok (.putfield 25, 3) := by decide +kernel
theorem dWa_init_33 : decode cWa_init 33 = .ok (.aload_n 0, 1) := by decide +kernel
theorem dWa_init_34 : decode cWa_init 34 = .ok (.iload 4, 2) := by decide +kernel
theorem dWa_init_36 : decode cWa_init 36 = .ok (.putfield 28, 3) := by decide +kernel
theorem dWa_init_39 : decode cWa_init 39 = .ok (.return_, 1) := by decide +kernel
theorem dWa_asItIs_0 : decode cWa_asItIs 0 = .ok (.new 10, 3) := by decide +kernel
theorem dWa_asItIs_3 : decode cWa_asItIs 3 = .ok (.dup, 1) := by decide +kernel
theorem dWa_asItIs_4 : decode cWa_asItIs 4 = .ok (.aload_n 0, 1) := by decide +kernel
theorem dWa_asItIs_5 : decode cWa_asItIs 5 = .ok (.getfield 18, 3) := by decide +kernel
theorem dWa_asItIs_8 : decode cWa_asItIs 8 = .ok (.aload_n 0, 1) := by decide +kernel
theorem dWa_asItIs_9 : decode cWa_asItIs 9 = .ok (.getfield 22, 3) := by decide +kernel
theorem dWa_asItIs_12 : decode cWa_asItIs 12 = .ok (.aload_n 0, 1) := by decide +kernel
theorem dWa_asItIs_13 : decode cWa_asItIs 13 = .ok (.getfield 25, 3) := by decide +kernel
theorem dWa_asItIs_16 : decode cWa_asItIs 16 = .ok (.aload_n 0, 1) := by decide +kernel
theorem dWa_asItIs_17 : decode cWa_asItIs 17 = .ok (.getfield 28, 3) := by decide +kernel
theorem dWa_asItIs_20 : decode cWa_asItIs 20 = .ok (.invokespecial 31, 3) := by decide +kernel
theorem dWa_asItIs_23 : decode cWa_asItIs 23 = .ok (.astore_n 1, 1) := by decide +kernel
theorem dWa_asItIs_24 : decode cWa_asItIs 24 = .ok (.aload_n 0, 1) := by decide +kernel
theorem dWa_asItIs_25 : decode cWa_asItIs 25 = .ok (.getfield 9, 3) := by decide +kernel
theorem dWa_asItIs_28 : decode cWa_asItIs 28 = .ok (.iconst 0, 1) := by decide +kernel
theorem dWa_asItIs_29 : decode cWa_asItIs 29 = .ok (.aload_n 1, 1) := by decide +kernel
theorem dWa_asItIs_30 : decode cWa_asItIs 30 = .ok (.getfield 9, 3) := by decide +kernel
theorem dWa_asItIs_33 : decode cWa_asItIs 33 = .ok (.iconst 0, 1) := by decide +kernel
theorem dWa_asItIs_34 : decode cWa_asItIs 34 = .ok (.iconst 3, 1) := by decide +kernel
theorem dWa_asItIs_35 : decode cWa_asItIs 35 = .ok (.invokestatic 34, 3) := by decide +kernel
theorem dWa_asItIs_38 : decode cWa_asItIs 38 = .ok (.aload_n 0, 1) := by decide +kernel
theorem dWa_asItIs_39 : decode cWa_asItIs 39 = .ok (.getfield 15, 3) := by decide +kernel
theorem dWa_asItIs_42 : decode cWa_asItIs 42 = .ok (.iconst 0, 1) := by decide +kernel
theorem dWa_asItIs_43 : decode cWa_asItIs 43 = .ok (.aload_n 1, 1) := by decide +kernel
theorem dWa_asItIs_44 : decode cWa_asItIs 44 = .ok (.getfield 15, 3) := by decide +kernel
theorem dWa_asItIs_47 : decode cWa_asItIs 47 = .ok (.iconst 0, 1) := by decide +kernel
theorem dWa_asItIs_48 : decode cWa_asItIs 48 = .ok (.iconst 3, 1) := by decide +kernel
theorem dWa_asItIs_49 : decode cWa_asItIs 49 = .ok (.invokestatic 34, 3) := by decide +kernel
theorem dWa_asItIs_52 : decode cWa_asItIs 52 = .ok (.aload_n 1, 1) := by decide +kernel
theorem dWa_asItIs_53 : decode cWa_asItIs 53 = .ok (.aload_n 0, 1) := by decide +kernel
theorem dWa_asItIs_54 : decode cWa_asItIs 54 = .ok (.getfield 40, 3) := by decide +kernel
theorem dWa_asItIs_57 : decode cWa_asItIs 57 = .ok (.putfield 40, 3) := by decide +kernel
theorem dWa_asItIs_60 : decode cWa_asItIs 60 = .ok (.aload_n 1, 1) := by decide +kernel
theorem dWa_asItIs_61 : decode cWa_asItIs 61 = .ok (.areturn, 1) := by decide +kernel
theorem dWa_heft_0 : decode cWa_heft 0 = .ok (.bipush 10, 2) := by decide +kernel
theorem dWa_heft_2 : decode cWa_heft 2 = .ok (.aload_n 0, 1) := by decide +kernel
theorem dWa_heft_3 : decode cWa_heft 3 = .ok (.getfield 40, 3) := by decide +kernel
theorem dWa_heft_6 : decode cWa_heft 6 = .ok (.iadd, 1) := by decide +kernel
theorem dWa_heft_7 : decode cWa_heft 7 = .ok (.istore_n 1, 1) := by decide +kernel
theorem dWa_heft_8 : decode cWa_heft 8 = .ok (.aload_n 0, 1) := by decide +kernel
theorem dWa_heft_9 : decode cWa_heft 9 = .ok (.getfield 25, 3) := by decide +kernel
theorem dWa_heft_12 : decode cWa_heft 12 = .ok (.ifCond .ne 5, 3) := by decide +kernel
theorem dWa_heft_15 : decode cWa_heft 15 = .ok (.iload_n 1, 1) := by decide +kernel
theorem dWa_heft_16 : decode cWa_heft 16 = .ok (.ireturn, 1) := by decide +kernel
theorem dWa_heft_17 : decode cWa_heft 17 = .ok (.aload_n 0, 1) := by decide +kernel
theorem dWa_heft_18 : decode cWa_heft 18 = .ok (.getfield 25, 3) := by decide +kernel
theorem dWa_heft_21 : decode cWa_heft 21 = .ok (.ifCond .le 10, 3) := by decide +kernel
theorem dWa_heft_24 : decode cWa_heft 24 = .ok (.iload_n 1, 1) := by decide +kernel
theorem dWa_heft_25 : decode cWa_heft 25 = .ok (.bipush 100, 2) := by decide +kernel
theorem dWa_heft_27 : decode cWa_heft 27 = .ok (.iadd, 1) := by decide +kernel
theorem dWa_heft_28 : decode cWa_heft 28 = .ok (.goto 9, 3) := by decide +kernel
theorem dWa_heft_31 : decode cWa_heft 31 = .ok (.iconst 2, 1) := by decide +kernel
theorem dWa_heft_32 : decode cWa_heft 32 = .ok (.iload_n 1, 1) := by decide +kernel
theorem dWa_heft_33 : decode cWa_heft 33 = .ok (.bipush 100, 2) := by decide +kernel
theorem dWa_heft_35 : decode cWa_heft 35 = .ok (.iadd, 1) := by decide +kernel
theorem dWa_heft_36 : decode cWa_heft 36 = .ok (.imul, 1) := by decide +kernel
theorem dWa_heft_37 : decode cWa_heft 37 = .ok (.ireturn, 1) := by decide +kernel
theorem dYa_init_0 : decode cYa_init 0 = .ok (.aload_n 0, 1) := by decide +kernel
theorem dYa_init_1 : decode cYa_init 1 = .ok (.invokespecial 3, 3) := by decide +kernel
theorem dYa_init_4 : decode cYa_init 4 = .ok (.aload_n 0, 1) := by decide +kernel
theorem dYa_init_5 : decode cYa_init 5 = .ok (.iconst 3, 1) := by decide +kernel
theorem dYa_init_6 : decode cYa_init 6 = .ok (.anewarray 9, 3) := by decide +kernel
theorem dYa_init_9 : decode cYa_init 9 = .ok (.putfield 11, 3) := by decide +kernel
theorem dYa_init_12 : decode cYa_init 12 = .ok (.aload_n 0, 1) := by decide +kernel
theorem dYa_init_13 : decode cYa_init 13 = .ok (.sipush 200, 3) := by decide +kernel
theorem dYa_init_16 : decode cYa_init 16 = .ok (.anewarray 17, 3) := by decide +kernel
theorem dYa_init_19 : decode cYa_init 19 = .ok (.putfield 19, 3) := by decide +kernel
theorem dYa_init_22 : decode cYa_init 22 = .ok (.aload_n 0, 1) := by decide +kernel
theorem dYa_init_23 : decode cYa_init 23 = .ok (.iconst 1, 1) := by decide +kernel
theorem dYa_init_24 : decode cYa_init 24 = .ok (.putfield 23, 3) := by decide +kernel
theorem dYa_init_27 : decode cYa_init 27 = .ok (.aload_n 0, 1) := by decide +kernel
theorem dYa_init_28 : decode cYa_init 28 = .ok (.iconst 4, 1) := by decide +kernel
theorem dYa_init_29 : decode cYa_init 29 = .ok (.newarray .int, 2) := by decide +kernel
theorem dYa_init_31 : decode cYa_init 31 = .ok (.putfield 27, 3) := by decide +kernel
theorem dYa_init_34 : decode cYa_init 34 = .ok (.aload_n 0, 1) := by decide +kernel
theorem dYa_init_35 : decode cYa_init 35 = .ok (.iconst 3, 1) := by decide +kernel
theorem dYa_init_36 : decode cYa_init 36 = .ok (.newarray .int, 2) := by decide +kernel
theorem dYa_init_38 : decode cYa_init 38 = .ok (.putfield 31, 3) := by decide +kernel
theorem dYa_init_41 : decode cYa_init 41 = .ok (.aload_n 0, 1) := by decide +kernel
theorem dYa_init_42 : decode cYa_init 42 = .ok (.new 34, 3) := by decide +kernel
theorem dYa_init_45 : decode cYa_init 45 = .ok (.dup, 1) := by decide +kernel
theorem dYa_init_46 : decode cYa_init 46 = .ok (.iconst 0, 1) := by decide +kernel
theorem dYa_init_47 : decode cYa_init 47 = .ok (.invokespecial 36, 3) := by decide +kernel
theorem dYa_init_50 : decode cYa_init 50 = .ok (.putfield 39, 3) := by decide +kernel
theorem dYa_init_53 : decode cYa_init 53 = .ok (.return_, 1) := by decide +kernel
theorem dYa_machineAt_0 : decode cYa_machineAt 0 = .ok (.iload_n 1, 1) := by decide +kernel
theorem dYa_machineAt_1 : decode cYa_machineAt 1 = .ok (.ifCond .lt 25, 3) := by decide +kernel
theorem dYa_machineAt_4 : decode cYa_machineAt 4 = .ok (.iload_n 1, 1) := by decide +kernel
theorem dYa_machineAt_5 : decode cYa_machineAt 5 = .ok (.aload_n 0, 1) := by decide +kernel
theorem dYa_machineAt_6 : decode cYa_machineAt 6 = .ok (.getfield 43, 3) := by decide +kernel
theorem dYa_machineAt_9 : decode cYa_machineAt 9 = .ok (.if_icmp .ge 17, 3) := by decide +kernel
theorem dYa_machineAt_12 : decode cYa_machineAt 12 = .ok (.iload_n 1, 1) := by decide +kernel
theorem dYa_machineAt_13 : decode cYa_machineAt 13 = .ok (.iconst 3, 1) := by decide +kernel
theorem dYa_machineAt_14 : decode cYa_machineAt 14 = .ok (.if_icmp .ge 12, 3) := by decide +kernel
theorem dYa_machineAt_17 : decode cYa_machineAt 17 = .ok (.aload_n 0, 1) := by decide +kernel
theorem dYa_machineAt_18 : decode cYa_machineAt 18 = .ok (.getfield 11, 3) := by decide +kernel
theorem dYa_machineAt_21 : decode cYa_machineAt 21 = .ok (.iload_n 1, 1) := by decide +kernel
theorem dYa_machineAt_22 : decode cYa_machineAt 22 = .ok (.aaload, 1) := by decide +kernel
theorem dYa_machineAt_23 : decode cYa_machineAt 23 = .ok (.goto 4, 3) := by decide +kernel
theorem dYa_machineAt_26 : decode cYa_machineAt 26 = .ok (.aconst_null, 1) := by decide +kernel
theorem dYa_machineAt_27 : decode cYa_machineAt 27 = .ok (.areturn, 1) := by decide +kernel
theorem dYa_placeAt_0 : decode cYa_placeAt 0 = .ok (.aload_n 0, 1) := by decide +kernel
theorem dYa_placeAt_1 : decode cYa_placeAt 1 = .ok (.iload_n 1, 1) := by decide +kernel
theorem dYa_placeAt_2 : decode cYa_placeAt 2 = .ok (.invokevirtual 47, 3) := by decide +kernel
theorem dYa_placeAt_5 : decode cYa_placeAt 5 = .ok (.astore_n 3, 1) := by decide +kernel
theorem dYa_placeAt_6 : decode cYa_placeAt 6 = .ok (.aload_n 3, 1) := by decide +kernel
theorem dYa_placeAt_7 : decode cYa_placeAt 7 = .ok (.ifnull 21, 3) := by decide +kernel
theorem dYa_placeAt_10 : decode cYa_placeAt 10 = .ok (.iload_n 2, 1) := by decide +kernel
theorem dYa_placeAt_11 : decode cYa_placeAt 11 = .ok (.ifCond .lt 17, 3) := by decide +kernel
theorem dYa_placeAt_14 : decode cYa_placeAt 14 = .ok (.iload_n 2, 1) := by decide +kernel
theorem dYa_placeAt_15 : decode cYa_placeAt 15 = .ok (.aload_n 3, 1) := by decide +kernel
theorem dYa_placeAt_16 : decode cYa_placeAt 16 = .ok (.getfield 51, 3) := by decide +kernel
theorem dYa_placeAt_19 : decode cYa_placeAt 19 = .ok (.if_icmp .ge 9, 3) := by decide +kernel
theorem dYa_placeAt_22 : decode cYa_placeAt 22 = .ok (.iload_n 2, 1) := by decide +kernel
theorem dYa_placeAt_23 : decode cYa_placeAt 23 = .ok (.bipush 6, 2) := by decide +kernel
theorem dYa_placeAt_25 : decode cYa_placeAt 25 = .ok (.if_icmp .lt 5, 3) := by decide +kernel
theorem dYa_placeAt_28 : decode cYa_placeAt 28 = .ok (.aconst_null, 1) := by decide +kernel
theorem dYa_placeAt_29 : decode cYa_placeAt 29 = .ok (.areturn, 1) := by decide +kernel
theorem dYa_placeAt_30 : decode cYa_placeAt 30 = .ok (.aload_n 3, 1) := by decide +kernel
theorem dYa_placeAt_31 : decode cYa_placeAt 31 = .ok (.getfield 54, 3) := by decide +kernel
theorem dYa_placeAt_34 : decode cYa_placeAt 34 = .ok (.iload_n 2, 1) := by decide +kernel
theorem dYa_placeAt_35 : decode cYa_placeAt 35 = .ok (.aaload, 1) := by decide +kernel
theorem dYa_placeAt_36 : decode cYa_placeAt 36 = .ok (.areturn, 1) := by decide +kernel
theorem dYa_wayAt_0 : decode cYa_wayAt 0 = .ok (.aload_n 0, 1) := by decide +kernel
theorem dYa_wayAt_1 : decode cYa_wayAt 1 = .ok (.iload_n 1, 1) := by decide +kernel
theorem dYa_wayAt_2 : decode cYa_wayAt 2 = .ok (.invokevirtual 47, 3) := by decide +kernel
theorem dYa_wayAt_5 : decode cYa_wayAt 5 = .ok (.astore_n 3, 1) := by decide +kernel
theorem dYa_wayAt_6 : decode cYa_wayAt 6 = .ok (.aload_n 3, 1) := by decide +kernel
theorem dYa_wayAt_7 : decode cYa_wayAt 7 = .ok (.ifnull 21, 3) := by decide +kernel
theorem dYa_wayAt_10 : decode cYa_wayAt 10 = .ok (.iload_n 2, 1) := by decide +kernel
theorem dYa_wayAt_11 : decode cYa_wayAt 11 = .ok (.ifCond .lt 17, 3) := by decide +kernel
theorem dYa_wayAt_14 : decode cYa_wayAt 14 = .ok (.iload_n 2, 1) := by decide +kernel
theorem dYa_wayAt_15 : decode cYa_wayAt 15 = .ok (.aload_n 3, 1) := by decide +kernel
theorem dYa_wayAt_16 : decode cYa_wayAt 16 = .ok (.getfield 58, 3) := by decide +kernel
theorem dYa_wayAt_19 : decode cYa_wayAt 19 = .ok (.if_icmp .ge 9, 3) := by decide +kernel
theorem dYa_wayAt_22 : decode cYa_wayAt 22 = .ok (.iload_n 2, 1) := by decide +kernel
theorem dYa_wayAt_23 : decode cYa_wayAt 23 = .ok (.bipush 12, 2) := by decide +kernel
theorem dYa_wayAt_25 : decode cYa_wayAt 25 = .ok (.if_icmp .lt 5, 3) := by decide +kernel
theorem dYa_wayAt_28 : decode cYa_wayAt 28 = .ok (.aconst_null, 1) := by decide +kernel
theorem dYa_wayAt_29 : decode cYa_wayAt 29 = .ok (.areturn, 1) := by decide +kernel
theorem dYa_wayAt_30 : decode cYa_wayAt 30 = .ok (.aload_n 3, 1) := by decide +kernel
theorem dYa_wayAt_31 : decode cYa_wayAt 31 = .ok (.getfield 61, 3) := by decide +kernel
theorem dYa_wayAt_34 : decode cYa_wayAt 34 = .ok (.iload_n 2, 1) := by decide +kernel
theorem dYa_wayAt_35 : decode cYa_wayAt 35 = .ok (.aaload, 1) := by decide +kernel
theorem dYa_wayAt_36 : decode cYa_wayAt 36 = .ok (.areturn, 1) := by decide +kernel
theorem dYa_stateAt_0 : decode cYa_stateAt 0 = .ok (.iload_n 1, 1) := by decide +kernel
theorem dYa_stateAt_1 : decode cYa_stateAt 1 = .ok (.ifCond .lt 27, 3) := by decide +kernel
theorem dYa_stateAt_4 : decode cYa_stateAt 4 = .ok (.iload_n 1, 1) := by decide +kernel
theorem dYa_stateAt_5 : decode cYa_stateAt 5 = .ok (.aload_n 0, 1) := by decide +kernel
theorem dYa_stateAt_6 : decode cYa_stateAt 6 = .ok (.getfield 65, 3) := by decide +kernel
theorem dYa_stateAt_9 : decode cYa_stateAt 9 = .ok (.if_icmp .ge 19, 3) := by decide +kernel
theorem dYa_stateAt_12 : decode cYa_stateAt 12 = .ok (.iload_n 1, 1) := by decide +kernel
theorem dYa_stateAt_13 : decode cYa_stateAt 13 = .ok (.sipush 200, 3) := by decide +kernel
theorem dYa_stateAt_16 : decode cYa_stateAt 16 = .ok (.if_icmp .ge 12, 3) := by decide +kernel
theorem dYa_stateAt_19 : decode cYa_stateAt 19 = .ok (.aload_n 0, 1) := by decide +kernel
theorem dYa_stateAt_20 : decode cYa_stateAt 20 = .ok (.getfield 19, 3) := by decide +kernel
theorem dYa_stateAt_23 : decode cYa_stateAt 23 = .ok (.iload_n 1, 1) := by decide +kernel
theorem dYa_stateAt_24 : decode cYa_stateAt 24 = .ok (.aaload, 1) := by decide +kernel
theorem dYa_stateAt_25 : decode cYa_stateAt 25 = .ok (.goto 4, 3) := by decide +kernel
theorem dYa_stateAt_28 : decode cYa_stateAt 28 = .ok (.aconst_null, 1) := by decide +kernel
theorem dYa_stateAt_29 : decode cYa_stateAt 29 = .ok (.areturn, 1) := by decide +kernel
theorem dYa_canBeWalked_0 : decode cYa_canBeWalked 0 = .ok (.iconst 0, 1) := by decide +kernel
theorem dYa_canBeWalked_1 : decode cYa_canBeWalked 1 = .ok (.istore_n 1, 1) := by decide +kernel
theorem dYa_canBeWalked_2 : decode cYa_canBeWalked 2 = .ok (.iload_n 1, 1) := by decide +kernel
theorem dYa_canBeWalked_3 : decode cYa_canBeWalked 3 = .ok (.aload_n 0, 1) := by decide +kernel
theorem dYa_canBeWalked_4 : decode cYa_canBeWalked 4 = .ok (.getfield 43, 3) := by decide +kernel
theorem dYa_canBeWalked_7 : decode cYa_canBeWalked 7 = .ok (.if_icmp .ge 20, 3) := by decide +kernel
theorem dYa_canBeWalked_10 : decode cYa_canBeWalked 10 = .ok (.aload_n 0, 1) := by decide +kernel
theorem dYa_canBeWalked_11 : decode cYa_canBeWalked 11 = .ok (.iload_n 1, 1) := by decide +kernel
theorem dYa_canBeWalked_12 : decode cYa_canBeWalked 12 = .ok (.iconst 0, 1) := by decide +kernel
theorem dYa_canBeWalked_13 : decode cYa_canBeWalked 13 = .ok (.invokevirtual 68, 3) := by decide +kernel
theorem dYa_canBeWalked_16 : decode cYa_canBeWalked 16 = .ok (.ifnonnull 5, 3) := by decide +kernel
theorem dYa_canBeWalked_19 : decode cYa_canBeWalked 19 = .ok (.iconst 0, 1) := by decide +kernel
theorem dYa_canBeWalked_20 : decode cYa_canBeWalked 20 = .ok (.ireturn, 1) := by decide +kernel
theorem dYa_canBeWalked_21 : decode cYa_canBeWalked 21 = .ok (.iinc 1 1, 3) := by decide +kernel
theorem dYa_canBeWalked_24 : decode cYa_canBeWalked 24 = .ok (.goto (-22), 3) := by decide +kernel
theorem dYa_canBeWalked_27 : decode cYa_canBeWalked 27 = .ok (.aload_n 0, 1) := by decide +kernel
theorem dYa_canBeWalked_28 : decode cYa_canBeWalked 28 = .ok (.getfield 43, 3) := by decide +kernel
theorem dYa_canBeWalked_31 : decode cYa_canBeWalked 31 = .ok (.ifCond .le 7, 3) := by decide +kernel
theorem dYa_canBeWalked_34 : decode cYa_canBeWalked 34 = .ok (.iconst 1, 1) := by decide +kernel
theorem dYa_canBeWalked_35 : decode cYa_canBeWalked 35 = .ok (.goto 4, 3) := by decide +kernel
theorem dYa_canBeWalked_38 : decode cYa_canBeWalked 38 = .ok (.iconst 0, 1) := by decide +kernel
theorem dYa_canBeWalked_39 : decode cYa_canBeWalked 39 = .ok (.ireturn, 1) := by decide +kernel
theorem dYa_begin_0 : decode cYa_begin 0 = .ok (.aload_n 0, 1) := by decide +kernel
theorem dYa_begin_1 : decode cYa_begin 1 = .ok (.iconst 0, 1) := by decide +kernel
theorem dYa_begin_2 : decode cYa_begin 2 = .ok (.putfield 65, 3) := by decide +kernel
theorem dYa_begin_5 : decode cYa_begin 5 = .ok (.aload_n 0, 1) := by decide +kernel
theorem dYa_begin_6 : decode cYa_begin 6 = .ok (.iconst 0, 1) := by decide +kernel
theorem dYa_begin_7 : decode cYa_begin 7 = .ok (.putfield 72, 3) := by decide +kernel
theorem dYa_begin_10 : decode cYa_begin 10 = .ok (.aload_n 0, 1) := by decide +kernel
theorem dYa_begin_11 : decode cYa_begin 11 = .ok (.iconst 0, 1) := by decide +kernel
theorem dYa_begin_12 : decode cYa_begin 12 = .ok (.putfield 75, 3) := by decide +kernel
theorem dYa_begin_15 : decode cYa_begin 15 = .ok (.aload_n 0, 1) := by decide +kernel
theorem dYa_begin_16 : decode cYa_begin 16 = .ok (.iconst 0, 1) := by decide +kernel
theorem dYa_begin_17 : decode cYa_begin 17 = .ok (.putfield 78, 3) := by decide +kernel
theorem dYa_begin_20 : decode cYa_begin 20 = .ok (.aload_n 0, 1) := by decide +kernel
theorem dYa_begin_21 : decode cYa_begin 21 = .ok (.iconst 1, 1) := by decide +kernel
theorem dYa_begin_22 : decode cYa_begin 22 = .ok (.putfield 81, 3) := by decide +kernel
theorem dYa_begin_25 : decode cYa_begin 25 = .ok (.aload_n 0, 1) := by decide +kernel
theorem dYa_begin_26 : decode cYa_begin 26 = .ok (.invokevirtual 84, 3) := by decide +kernel
theorem dYa_begin_29 : decode cYa_begin 29 = .ok (.iconst 0, 1) := by decide +kernel
theorem dYa_begin_30 : decode cYa_begin 30 = .ok (.istore_n 1, 1) := by decide +kernel
theorem dYa_begin_31 : decode cYa_begin 31 = .ok (.iload_n 1, 1) := by decide +kernel
theorem dYa_begin_32 : decode cYa_begin 32 = .ok (.iconst 3, 1) := by decide +kernel
theorem dYa_begin_33 : decode cYa_begin 33 = .ok (.if_icmp .ge 29, 3) := by decide +kernel
theorem dYa_begin_36 : decode cYa_begin 36 = .ok (.aload_n 0, 1) := by decide +kernel
theorem dYa_begin_37 : decode cYa_begin 37 = .ok (.getfield 31, 3) := by decide +kernel
theorem dYa_begin_40 : decode cYa_begin 40 = .ok (.iload_n 1, 1) := by decide +kernel
theorem dYa_begin_41 : decode cYa_begin 41 = .ok (.iload_n 1, 1) := by decide +kernel
theorem dYa_begin_42 : decode cYa_begin 42 = .ok (.aload_n 0, 1) := by decide +kernel
theorem dYa_begin_43 : decode cYa_begin 43 = .ok (.getfield 43, 3) := by decide +kernel
theorem dYa_begin_46 : decode cYa_begin 46 = .ok (.if_icmp .ge 7, 3) := by decide +kernel
theorem dYa_begin_49 : decode cYa_begin 49 = .ok (.iconst 0, 1) := by decide +kernel
theorem dYa_begin_50 : decode cYa_begin 50 = .ok (.goto 5, 3) := by decide +kernel
theorem dYa_begin_53 : decode cYa_begin 53 = .ok (.bipush (-2), 2) := by decide +kernel
theorem dYa_begin_55 : decode cYa_begin 55 = .ok (.iastore, 1) := by decide +kernel
theorem dYa_begin_56 : decode cYa_begin 56 = .ok (.iinc 1 1, 3) := by decide +kernel
theorem dYa_begin_59 : decode cYa_begin 59 = .ok (.goto (-28), 3) := by decide +kernel
theorem dYa_begin_62 : decode cYa_begin 62 = .ok (.aload_n 0, 1) := by decide +kernel
theorem dYa_begin_63 : decode cYa_begin 63 = .ok (.getfield 39, 3) := by decide +kernel
theorem dYa_begin_66 : decode cYa_begin 66 = .ok (.invokevirtual 87, 3) := by decide +kernel
theorem dYa_begin_69 : decode cYa_begin 69 = .ok (.aload_n 0, 1) := by decide +kernel
theorem dYa_begin_70 : decode cYa_begin 70 = .ok (.aload_n 0, 1) := by decide +kernel
theorem dYa_begin_71 : decode cYa_begin 71 = .ok (.getfield 39, 3) := by decide +kernel
theorem dYa_begin_74 : decode cYa_begin 74 = .ok (.invokevirtual 90, 3) := by decide +kernel
theorem dYa_begin_77 : decode cYa_begin 77 = .ok (.aload_n 0, 1) := by decide +kernel
theorem dYa_begin_78 : decode cYa_begin 78 = .ok (.aload_n 0, 1) := by decide +kernel
theorem dYa_begin_79 : decode cYa_begin 79 = .ok (.getfield 39, 3) := by decide +kernel
theorem dYa_begin_82 : decode cYa_begin 82 = .ok (.invokevirtual 94, 3) := by decide +kernel
theorem dYa_begin_85 : decode cYa_begin 85 = .ok (.aload_n 0, 1) := by decide +kernel
theorem dYa_begin_86 : decode cYa_begin 86 = .ok (.getfield 39, 3) := by decide +kernel
theorem dYa_begin_89 : decode cYa_begin 89 = .ok (.getfield 97, 3) := by decide +kernel
theorem dYa_begin_92 : decode cYa_begin 92 = .ok (.ifCond .eq 4, 3) := by decide +kernel
theorem dYa_begin_95 : decode cYa_begin 95 = .ok (.return_, 1) := by decide +kernel
theorem dYa_begin_96 : decode cYa_begin 96 = .ok (.aload_n 0, 1) := by decide +kernel
theorem dYa_begin_97 : decode cYa_begin 97 = .ok (.aconst_null, 1) := by decide +kernel
theorem dYa_begin_98 : decode cYa_begin 98 = .ok (.invokevirtual 100, 3) := by decide +kernel
theorem dYa_begin_101 : decode cYa_begin 101 = .ok (.astore_n 1, 1) := by decide +kernel
theorem dYa_begin_102 : decode cYa_begin 102 = .ok (.aload_n 1, 1) := by decide +kernel
theorem dYa_begin_103 : decode cYa_begin 103 = .ok (.getfield 104, 3) := by decide +kernel
theorem dYa_begin_106 : decode cYa_begin 106 = .ok (.invokevirtual 87, 3) := by decide +kernel
theorem dYa_begin_109 : decode cYa_begin 109 = .ok (.aload_n 0, 1) := by decide +kernel
theorem dYa_begin_110 : decode cYa_begin 110 = .ok (.aload_n 1, 1) := by decide +kernel
theorem dYa_begin_111 : decode cYa_begin 111 = .ok (.getfield 104, 3) := by decide +kernel
theorem dYa_begin_114 : decode cYa_begin 114 = .ok (.invokevirtual 94, 3) := by decide +kernel
theorem dYa_begin_117 : decode cYa_begin 117 = .ok (.aload_n 1, 1) := by decide +kernel
theorem dYa_begin_118 : decode cYa_begin 118 = .ok (.iconst 0, 1) := by decide +kernel
theorem dYa_begin_119 : decode cYa_begin 119 = .ok (.putfield 107, 3) := by decide +kernel
theorem dYa_begin_122 : decode cYa_begin 122 = .ok (.aload_n 0, 1) := by decide +kernel
theorem dYa_begin_123 : decode cYa_begin 123 = .ok (.invokevirtual 110, 3) := by decide +kernel
theorem dYa_begin_126 : decode cYa_begin 126 = .ok (.aload_n 1, 1) := by decide +kernel
theorem dYa_begin_127 : decode cYa_begin 127 = .ok (.getfield 113, 3) := by decide +kernel
theorem dYa_begin_130 : decode cYa_begin 130 = .ok (.aload_n 0, 1) := by decide +kernel
theorem dYa_begin_131 : decode cYa_begin 131 = .ok (.getfield 39, 3) := by decide +kernel
theorem dYa_begin_134 : decode cYa_begin 134 = .ok (.invokevirtual 116, 3) := by decide +kernel
theorem dYa_begin_137 : decode cYa_begin 137 = .ok (.return_, 1) := by decide +kernel
theorem dYa_findGreatest_0 : decode cYa_findGreatest 0 = .ok (.aload_n 0, 1) := by decide +kernel
theorem dYa_findGreatest_1 : decode cYa_findGreatest 1 = .ok (.getfield 27, 3) := by decide +kernel
theorem dYa_findGreatest_4 : decode cYa_findGreatest 4 = .ok (.iconst 0, 1) := by decide +kernel
theorem dYa_findGreatest_5 : decode cYa_findGreatest 5 = .ok (.invokestatic 119, 3) := by decide +kernel
theorem dYa_findGreatest_8 : decode cYa_findGreatest 8 = .ok (.aload_n 0, 1) := by decide +kernel
theorem dYa_findGreatest_9 : decode cYa_findGreatest 9 = .ok (.iconst 1, 1) := by decide +kernel
theorem dYa_findGreatest_10 : decode cYa_findGreatest 10 = .ok (.putfield 23, 3) := by decide +kernel
theorem dYa_findGreatest_13 : decode cYa_findGreatest 13 = .ok (.iconst 0, 1) := by decide +kernel
theorem dYa_findGreatest_14 : decode cYa_findGreatest 14 = .ok (.istore_n 1, 1) := by decide +kernel
theorem dYa_findGreatest_15 : decode cYa_findGreatest 15 = .ok (.iload_n 1, 1) := by decide +kernel
theorem dYa_findGreatest_16 : decode cYa_findGreatest 16 = .ok (.aload_n 0, 1) := by decide +kernel
theorem dYa_findGreatest_17 : decode cYa_findGreatest 17 = .ok (.getfield 43, 3) := by decide +kernel
theorem dYa_findGreatest_20 : decode cYa_findGreatest 20 = .ok (.if_icmp .ge 57, 3) := by decide +kernel
theorem dYa_findGreatest_23 : decode cYa_findGreatest 23 = .ok (.iconst 0, 1) := by decide +kernel
theorem dYa_findGreatest_24 : decode cYa_findGreatest 24 = .ok (.istore_n 2, 1) := by decide +kernel
theorem dYa_findGreatest_25 : decode cYa_findGreatest 25 = .ok (.iload_n 2, 1) := by decide +kernel
theorem dYa_findGreatest_26 : decode cYa_findGreatest 26 = .ok (.bipush 6, 2) := by decide +kernel
theorem dYa_findGreatest_28 : decode cYa_findGreatest 28 = .ok (.if_icmp .ge 19, 3) := by decide +kernel
theorem dYa_findGreatest_31 : decode cYa_findGreatest 31 = .ok (.aload_n 0, 1) := by decide +kernel
theorem dYa_findGreatest_32 : decode cYa_findGreatest 32 = .ok (.aload_n 0, 1) := by decide +kernel
theorem dYa_findGreatest_33 : decode cYa_findGreatest 33 = .ok (.iload_n 1, 1) := by decide +kernel
theorem dYa_findGreatest_34 : decode cYa_findGreatest 34 = .ok (.iload_n 2, 1) := by decide +kernel
theorem dYa_findGreatest_35 : decode cYa_findGreatest 35 = .ok (.invokevirtual 68, 3) := by decide +kernel
theorem dYa_findGreatest_38 : decode cYa_findGreatest 38 = .ok (.invokevirtual 125, 3) := by decide +kernel
theorem dYa_findGreatest_41 : decode cYa_findGreatest 41 = .ok (.iinc 2 1, 3) := by decide +kernel
theorem dYa_findGreatest_44 : decode cYa_findGreatest 44 = .ok (.goto (-19), 3) := by decide +kernel
theorem dYa_findGreatest_47 : decode cYa_findGreatest 47 = .ok (.iconst 0, 1) := by decide +kernel
theorem dYa_findGreatest_48 : decode cYa_findGreatest 48 = .ok (.istore_n 2, 1) := by decide +kernel
theorem dYa_findGreatest_49 : decode cYa_findGreatest 49 = .ok (.iload_n 2, 1) := by decide +kernel
theorem dYa_findGreatest_50 : decode cYa_findGreatest 50 = .ok (.bipush 12, 2) := by decide +kernel
theorem dYa_findGreatest_52 : decode cYa_findGreatest 52 = .ok (.if_icmp .ge 19, 3) := by decide +kernel
theorem dYa_findGreatest_55 : decode cYa_findGreatest 55 = .ok (.aload_n 0, 1) := by decide +kernel
theorem dYa_findGreatest_56 : decode cYa_findGreatest 56 = .ok (.aload_n 0, 1) := by decide +kernel
theorem dYa_findGreatest_57 : decode cYa_findGreatest 57 = .ok (.iload_n 1, 1) := by decide +kernel
theorem dYa_findGreatest_58 : decode cYa_findGreatest 58 = .ok (.iload_n 2, 1) := by decide +kernel
theorem dYa_findGreatest_59 : decode cYa_findGreatest 59 = .ok (.invokevirtual 129, 3) := by decide +kernel
theorem dYa_findGreatest_62 : decode cYa_findGreatest 62 = .ok (.invokevirtual 133, 3) := by decide +kernel
theorem dYa_findGreatest_65 : decode cYa_findGreatest 65 = .ok (.iinc 2 1, 3) := by decide +kernel
theorem dYa_findGreatest_68 : decode cYa_findGreatest 68 = .ok (.goto (-19), 3) := by decide +kernel
theorem dYa_findGreatest_71 : decode cYa_findGreatest 71 = .ok (.iinc 1 1, 3) := by decide +kernel
theorem dYa_findGreatest_74 : decode cYa_findGreatest 74 = .ok (.goto (-59), 3) := by decide +kernel
theorem dYa_findGreatest_77 : decode cYa_findGreatest 77 = .ok (.return_, 1) := by decide +kernel
theorem dYa_heedLimits_0 : decode cYa_heedLimits 0 = .ok (.aload_n 1, 1) := by decide +kernel
theorem dYa_heedLimits_1 : decode cYa_heedLimits 1 = .ok (.ifnonnull 4, 3) := by decide +kernel
theorem dYa_heedLimits_4 : decode cYa_heedLimits 4 = .ok (.return_, 1) := by decide +kernel
theorem dYa_heedLimits_5 : decode cYa_heedLimits 5 = .ok (.iconst 0, 1) := by decide +kernel
theorem dYa_heedLimits_6 : decode cYa_heedLimits 6 = .ok (.istore_n 2, 1) := by decide +kernel
theorem dYa_heedLimits_7 : decode cYa_heedLimits 7 = .ok (.iload_n 2, 1) := by decide +kernel
theorem dYa_heedLimits_8 : decode cYa_heedLimits 8 = .ok (.aload_n 1, 1) := by decide +kernel
theorem dYa_heedLimits_9 : decode cYa_heedLimits 9 = .ok (.getfield 137, 3) := by decide +kernel
theorem dYa_heedLimits_12 : decode cYa_heedLimits 12 = .ok (.if_icmp .ge 30, 3) := by decide +kernel
theorem dYa_heedLimits_15 : decode cYa_heedLimits 15 = .ok (.iload_n 2, 1) := by decide +kernel
theorem dYa_heedLimits_16 : decode cYa_heedLimits 16 = .ok (.iconst 2, 1) := by decide +kernel
theorem dYa_heedLimits_17 : decode cYa_heedLimits 17 = .ok (.if_icmp .ge 25, 3) := by decide +kernel
theorem dYa_heedLimits_20 : decode cYa_heedLimits 20 = .ok (.aload_n 0, 1) := by decide +kernel
theorem dYa_heedLimits_21 : decode cYa_heedLimits 21 = .ok (.aload_n 1, 1) := by decide +kernel
theorem dYa_heedLimits_22 : decode cYa_heedLimits 22 = .ok (.getfield 142, 3) := by decide +kernel
theorem dYa_heedLimits_25 : decode cYa_heedLimits 25 = .ok (.iload_n 2, 1) := by decide +kernel
theorem dYa_heedLimits_26 : decode cYa_heedLimits 26 = .ok (.iaload, 1) := by decide +kernel
theorem dYa_heedLimits_27 : decode cYa_heedLimits 27 = .ok (.aload_n 1, 1) := by decide +kernel
theorem dYa_heedLimits_28 : decode cYa_heedLimits 28 = .ok (.getfield 145, 3) := by decide +kernel
theorem dYa_heedLimits_31 : decode cYa_heedLimits 31 = .ok (.iload_n 2, 1) := by decide +kernel
theorem dYa_heedLimits_32 : decode cYa_heedLimits 32 = .ok (.iaload, 1) := by decide +kernel
theorem dYa_heedLimits_33 : decode cYa_heedLimits 33 = .ok (.invokevirtual 148, 3) := by decide +kernel
theorem dYa_heedLimits_36 : decode cYa_heedLimits 36 = .ok (.iinc 2 1, 3) := by decide +kernel
theorem dYa_heedLimits_39 : decode cYa_heedLimits 39 = .ok (.goto (-32), 3) := by decide +kernel
theorem dYa_heedLimits_42 : decode cYa_heedLimits 42 = .ok (.return_, 1) := by decide +kernel
theorem dYa_heedTests_0 : decode cYa_heedTests 0 = .ok (.aload_n 1, 1) := by decide +kernel
theorem dYa_heedTests_1 : decode cYa_heedTests 1 = .ok (.ifnonnull 4, 3) := by decide +kernel
theorem dYa_heedTests_4 : decode cYa_heedTests 4 = .ok (.return_, 1) := by decide +kernel
theorem dYa_heedTests_5 : decode cYa_heedTests 5 = .ok (.iconst 0, 1) := by decide +kernel
theorem dYa_heedTests_6 : decode cYa_heedTests 6 = .ok (.istore_n 2, 1) := by decide +kernel
theorem dYa_heedTests_7 : decode cYa_heedTests 7 = .ok (.iload_n 2, 1) := by decide +kernel
theorem dYa_heedTests_8 : decode cYa_heedTests 8 = .ok (.aload_n 1, 1) := by decide +kernel
theorem dYa_heedTests_9 : decode cYa_heedTests 9 = .ok (.getfield 152, 3) := by decide +kernel
theorem dYa_heedTests_12 : decode cYa_heedTests 12 = .ok (.if_icmp .ge 64, 3) := by decide +kernel
theorem dYa_heedTests_15 : decode cYa_heedTests 15 = .ok (.iload_n 2, 1) := by decide +kernel
theorem dYa_heedTests_16 : decode cYa_heedTests 16 = .ok (.iconst 3, 1) := by decide +kernel
theorem dYa_heedTests_17 : decode cYa_heedTests 17 = .ok (.if_icmp .ge 59, 3) := by decide +kernel
theorem dYa_heedTests_20 : decode cYa_heedTests 20 = .ok (.aload_n 1, 1) := by decide +kernel
theorem dYa_heedTests_21 : decode cYa_heedTests 21 = .ok (.getfield 157, 3) := by decide +kernel
theorem dYa_heedTests_24 : decode cYa_heedTests 24 = .ok (.iload_n 2, 1) := by decide +kernel
theorem dYa_heedTests_25 : decode cYa_heedTests 25 = .ok (.iaload, 1) := by decide +kernel
theorem dYa_heedTests_26 : decode cYa_heedTests 26 = .ok (.iconst 4, 1) := by decide +kernel
theorem dYa_heedTests_27 : decode cYa_heedTests 27 = .ok (.idiv, 1) := by decide +kernel
theorem dYa_heedTests_28 : decode cYa_heedTests 28 = .ok (.istore_n 3, 1) := by decide +kernel
theorem dYa_heedTests_29 : decode cYa_heedTests 29 = .ok (.aload_n 1, 1) := by decide +kernel
theorem dYa_heedTests_30 : decode cYa_heedTests 30 = .ok (.getfield 157, 3) := by decide +kernel
theorem dYa_heedTests_33 : decode cYa_heedTests 33 = .ok (.iload_n 2, 1) := by decide +kernel
theorem dYa_heedTests_34 : decode cYa_heedTests 34 = .ok (.iaload, 1) := by decide +kernel
theorem dYa_heedTests_35 : decode cYa_heedTests 35 = .ok (.iconst 4, 1) := by decide +kernel
theorem dYa_heedTests_36 : decode cYa_heedTests 36 = .ok (.irem, 1) := by decide +kernel
theorem dYa_heedTests_37 : decode cYa_heedTests 37 = .ok (.istore 4, 2) := by decide +kernel
theorem dYa_heedTests_39 : decode cYa_heedTests 39 = .ok (.iload_n 3, 1) := by decide +kernel
theorem dYa_heedTests_40 : decode cYa_heedTests 40 = .ok (.ifCond .eq 16, 3) := by decide +kernel
theorem dYa_heedTests_43 : decode cYa_heedTests 43 = .ok (.iload 4, 2) := by decide +kernel
theorem dYa_heedTests_45 : decode cYa_heedTests 45 = .ok (.ifCond .eq 11, 3) := by decide +kernel
theorem dYa_heedTests_48 : decode cYa_heedTests 48 = .ok (.aload_n 0, 1) := by decide +kernel
theorem dYa_heedTests_49 : decode cYa_heedTests 49 = .ok (.iconst 0, 1) := by decide +kernel
theorem dYa_heedTests_50 : decode cYa_heedTests 50 = .ok (.putfield 23, 3) := by decide +kernel
theorem dYa_heedTests_53 : decode cYa_heedTests 53 = .ok (.goto 17, 3) := by decide +kernel
theorem dYa_heedTests_56 : decode cYa_heedTests 56 = .ok (.aload_n 0, 1) := by decide +kernel
theorem dYa_heedTests_57 : decode cYa_heedTests 57 = .ok (.iload_n 3, 1) := by decide +kernel
theorem dYa_heedTests_58 : decode cYa_heedTests 58 = .ok (.iload 4, 2) := by decide +kernel
theorem dYa_heedTests_60 : decode cYa_heedTests 60 = .ok (.iadd, 1) := by decide +kernel
theorem dYa_heedTests_61 : decode cYa_heedTests 61 = .ok (.aload_n 1, 1) := by decide +kernel
theorem dYa_heedTests_62 : decode cYa_heedTests 62 = .ok (.getfield 160, 3) := by decide +kernel
theorem dYa_heedTests_65 : decode cYa_heedTests 65 = .ok (.iload_n 2, 1) := by decide +kernel
theorem dYa_heedTests_66 : decode cYa_heedTests 66 = .ok (.iaload, 1) := by decide +kernel
theorem dYa_heedTests_67 : decode cYa_heedTests 67 = .ok (.invokevirtual 148, 3) := by decide +kernel
theorem dYa_heedTests_70 : decode cYa_heedTests 70 = .ok (.iinc 2 1, 3) := by decide +kernel
theorem dYa_heedTests_73 : decode cYa_heedTests 73 = .ok (.goto (-66), 3) := by decide +kernel
theorem dYa_heedTests_76 : decode cYa_heedTests 76 = .ok (.return_, 1) := by decide +kernel
theorem dYa_heed_0 : decode cYa_heed 0 = .ok (.iload_n 1, 1) := by decide +kernel
theorem dYa_heed_1 : decode cYa_heed 1 = .ok (.ifCond .le 29, 3) := by decide +kernel
theorem dYa_heed_4 : decode cYa_heed 4 = .ok (.iload_n 1, 1) := by decide +kernel
theorem dYa_heed_5 : decode cYa_heed 5 = .ok (.iconst 4, 1) := by decide +kernel
theorem dYa_heed_6 : decode cYa_heed 6 = .ok (.if_icmp .ge 24, 3) := by decide +kernel
theorem dYa_heed_9 : decode cYa_heed 9 = .ok (.aload_n 0, 1) := by decide +kernel
theorem dYa_heed_10 : decode cYa_heed 10 = .ok (.getfield 27, 3) := by decide +kernel
theorem dYa_heed_13 : decode cYa_heed 13 = .ok (.iload_n 1, 1) := by decide +kernel
theorem dYa_heed_14 : decode cYa_heed 14 = .ok (.aload_n 0, 1) := by decide +kernel
theorem dYa_heed_15 : decode cYa_heed 15 = .ok (.getfield 27, 3) := by decide +kernel
theorem dYa_heed_18 : decode cYa_heed 18 = .ok (.iload_n 1, 1) := by decide +kernel
theorem dYa_heed_19 : decode cYa_heed 19 = .ok (.iaload, 1) := by decide +kernel
theorem dYa_heed_20 : decode cYa_heed 20 = .ok (.iload_n 2, 1) := by decide +kernel
theorem dYa_heed_21 : decode cYa_heed 21 = .ok (.iconst 1, 1) := by decide +kernel
theorem dYa_heed_22 : decode cYa_heed 22 = .ok (.ishr, 1) := by decide +kernel
theorem dYa_heed_23 : decode cYa_heed 23 = .ok (.invokestatic 161, 3) := by decide +kernel
theorem dYa_heed_26 : decode cYa_heed 26 = .ok (.invokestatic 167, 3) := by decide +kernel
theorem dYa_heed_29 : decode cYa_heed 29 = .ok (.iastore, 1) := by decide +kernel
theorem dYa_heed_30 : decode cYa_heed 30 = .ok (.return_, 1) := by decide +kernel
theorem dYa_lookAt_0 : decode cYa_lookAt 0 = .ok (.iconst 0, 1) := by decide +kernel
theorem dYa_lookAt_1 : decode cYa_lookAt 1 = .ok (.istore_n 2, 1) := by decide +kernel
theorem dYa_lookAt_2 : decode cYa_lookAt 2 = .ok (.iload_n 2, 1) := by decide +kernel
theorem dYa_lookAt_3 : decode cYa_lookAt 3 = .ok (.aload_n 0, 1) := by decide +kernel
theorem dYa_lookAt_4 : decode cYa_lookAt 4 = .ok (.getfield 43, 3) := by decide +kernel
theorem dYa_lookAt_7 : decode cYa_lookAt 7 = .ok (.if_icmp .ge 107, 3) := by decide +kernel
theorem dYa_lookAt_10 : decode cYa_lookAt 10 = .ok (.iconst 0, 1) := by decide +kernel
theorem dYa_lookAt_11 : decode cYa_lookAt 11 = .ok (.istore_n 3, 1) := by decide +kernel
theorem dYa_lookAt_12 : decode cYa_lookAt 12 = .ok (.iload_n 3, 1) := by decide +kernel
theorem dYa_lookAt_13 : decode cYa_lookAt 13 = .ok (.bipush 12, 2) := by decide +kernel
theorem dYa_lookAt_15 : decode cYa_lookAt 15 = .ok (.if_icmp .ge 93, 3) := by decide +kernel
theorem dYa_lookAt_18 : decode cYa_lookAt 18 = .ok (.aload_n 0, 1) := by decide +kernel
theorem dYa_lookAt_19 : decode cYa_lookAt 19 = .ok (.aload_n 1, 1) := by decide +kernel
theorem dYa_lookAt_20 : decode cYa_lookAt 20 = .ok (.iload_n 2, 1) := by decide +kernel
theorem dYa_lookAt_21 : decode cYa_lookAt 21 = .ok (.iload_n 3, 1) := by decide +kernel
theorem dYa_lookAt_22 : decode cYa_lookAt 22 = .ok (.invokevirtual 171, 3) := by decide +kernel
theorem dYa_lookAt_25 : decode cYa_lookAt 25 = .ok (.astore 4, 2) := by decide +kernel
theorem dYa_lookAt_27 : decode cYa_lookAt 27 = .ok (.aload 4, 2) := by decide +kernel
theorem dYa_lookAt_29 : decode cYa_lookAt 29 = .ok (.ifnull 73, 3) := by decide +kernel
theorem dYa_lookAt_32 : decode cYa_lookAt 32 = .ok (.aload 4, 2) := by decide +kernel
theorem dYa_lookAt_34 : decode cYa_lookAt 34 = .ok (.getfield 175, 3) := by decide +kernel
theorem dYa_lookAt_37 : decode cYa_lookAt 37 = .ok (.ifCond .ge 6, 3) := by decide +kernel
theorem dYa_lookAt_40 : decode cYa_lookAt 40 = .ok (.goto 62, 3) := by decide +kernel
theorem dYa_lookAt_43 : decode cYa_lookAt 43 = .ok (.aload 4, 2) := by decide +kernel
theorem dYa_lookAt_45 : decode cYa_lookAt 45 = .ok (.getfield 175, 3) := by decide +kernel
theorem dYa_lookAt_48 : decode cYa_lookAt 48 = .ok (.ifCond .ne 25, 3) := by decide +kernel
theorem dYa_lookAt_51 : decode cYa_lookAt 51 = .ok (.aload_n 0, 1) := by decide +kernel
theorem dYa_lookAt_52 : decode cYa_lookAt 52 = .ok (.aload_n 1, 1) := by decide +kernel
theorem dYa_lookAt_53 : decode cYa_lookAt 53 = .ok (.iload_n 2, 1) := by decide +kernel
theorem dYa_lookAt_54 : decode cYa_lookAt 54 = .ok (.iload_n 3, 1) := by decide +kernel
theorem dYa_lookAt_55 : decode cYa_lookAt 55 = .ok (.bipush (-2), 2) := by decide +kernel
theorem dYa_lookAt_57 : decode cYa_lookAt 57 = .ok (.bipush (-2), 2) := by decide +kernel
theorem dYa_lookAt_59 : decode cYa_lookAt 59 = .ok (.invokevirtual 178, 3) := by decide +kernel
theorem dYa_lookAt_62 : decode cYa_lookAt 62 = .ok (.ifCond .ne 7, 3) := by decide +kernel
theorem dYa_lookAt_65 : decode cYa_lookAt 65 = .ok (.iconst 1, 1) := by decide +kernel
theorem dYa_lookAt_66 : decode cYa_lookAt 66 = .ok (.goto 27, 3) := by decide +kernel
theorem dYa_lookAt_69 : decode cYa_lookAt 69 = .ok (.iconst 0, 1) := by decide +kernel
theorem dYa_lookAt_70 : decode cYa_lookAt 70 = .ok (.goto 23, 3) := by decide +kernel
theorem dYa_lookAt_73 : decode cYa_lookAt 73 = .ok (.aload_n 0, 1) := by decide +kernel
theorem dYa_lookAt_74 : decode cYa_lookAt 74 = .ok (.aload_n 1, 1) := by decide +kernel
theorem dYa_lookAt_75 : decode cYa_lookAt 75 = .ok (.iload_n 2, 1) := by decide +kernel
theorem dYa_lookAt_76 : decode cYa_lookAt 76 = .ok (.iload_n 3, 1) := by decide +kernel
theorem dYa_lookAt_77 : decode cYa_lookAt 77 = .ok (.aload 4, 2) := by decide +kernel
theorem dYa_lookAt_79 : decode cYa_lookAt 79 = .ok (.getfield 175, 3) := by decide +kernel
theorem dYa_lookAt_82 : decode cYa_lookAt 82 = .ok (.invokevirtual 182, 3) := by decide +kernel
theorem dYa_lookAt_85 : decode cYa_lookAt 85 = .ok (.ifCond .ne 7, 3) := by decide +kernel
theorem dYa_lookAt_88 : decode cYa_lookAt 88 = .ok (.iconst 1, 1) := by decide +kernel
theorem dYa_lookAt_89 : decode cYa_lookAt 89 = .ok (.goto 4, 3) := by decide +kernel
theorem dYa_lookAt_92 : decode cYa_lookAt 92 = .ok (.iconst 0, 1) := by decide +kernel
theorem dYa_lookAt_93 : decode cYa_lookAt 93 = .ok (.istore 5, 2) := by decide +kernel
theorem dYa_lookAt_95 : decode cYa_lookAt 95 = .ok (.iload 5, 2) := by decide +kernel
theorem dYa_lookAt_97 : decode cYa_lookAt 97 = .ok (.ifCond .eq 5, 3) := by decide +kernel
theorem dYa_lookAt_100 : decode cYa_lookAt 100 = .ok (.iconst 0, 1) := by decide +kernel
theorem dYa_lookAt_101 : decode cYa_lookAt 101 = .ok (.ireturn, 1) := by decide +kernel
theorem dYa_lookAt_102 : decode cYa_lookAt 102 = .ok (.iinc 3 1, 3) := by decide +kernel
theorem dYa_lookAt_105 : decode cYa_lookAt 105 = .ok (.goto (-93), 3) := by decide +kernel
theorem dYa_lookAt_108 : decode cYa_lookAt 108 = .ok (.iinc 2 1, 3) := by decide +kernel
theorem dYa_lookAt_111 : decode cYa_lookAt 111 = .ok (.goto (-109), 3) := by decide +kernel
theorem dYa_lookAt_114 : decode cYa_lookAt 114 = .ok (.aload_n 0, 1) := by decide +kernel
theorem dYa_lookAt_115 : decode cYa_lookAt 115 = .ok (.dup, 1) := by decide +kernel
theorem dYa_lookAt_116 : decode cYa_lookAt 116 = .ok (.getfield 72, 3) := by decide +kernel
theorem dYa_lookAt_119 : decode cYa_lookAt 119 = .ok (.iconst 1, 1) := by decide +kernel
theorem dYa_lookAt_120 : decode cYa_lookAt 120 = .ok (.iadd, 1) := by decide +kernel
theorem dYa_lookAt_121 : decode cYa_lookAt 121 = .ok (.putfield 72, 3) := by decide +kernel
theorem dYa_lookAt_124 : decode cYa_lookAt 124 = .ok (.aload_n 0, 1) := by decide +kernel
theorem dYa_lookAt_125 : decode cYa_lookAt 125 = .ok (.dup, 1) := by decide +kernel
theorem dYa_lookAt_126 : decode cYa_lookAt 126 = .ok (.getfield 75, 3) := by decide +kernel
theorem dYa_lookAt_129 : decode cYa_lookAt 129 = .ok (.aload_n 1, 1) := by decide +kernel
theorem dYa_lookAt_130 : decode cYa_lookAt 130 = .ok (.getfield 186, 3) := by decide +kernel
theorem dYa_lookAt_133 : decode cYa_lookAt 133 = .ok (.iadd, 1) := by decide +kernel
theorem dYa_lookAt_134 : decode cYa_lookAt 134 = .ok (.putfield 75, 3) := by decide +kernel
theorem dYa_lookAt_137 : decode cYa_lookAt 137 = .ok (.aload_n 0, 1) := by decide +kernel
theorem dYa_lookAt_138 : decode cYa_lookAt 138 = .ok (.dup, 1) := by decide +kernel
theorem dYa_lookAt_139 : decode cYa_lookAt 139 = .ok (.getfield 78, 3) := by decide +kernel
theorem dYa_lookAt_142 : decode cYa_lookAt 142 = .ok (.aload_n 1, 1) := by decide +kernel
theorem dYa_lookAt_143 : decode cYa_lookAt 143 = .ok (.getfield 187, 3) := by decide +kernel
theorem dYa_lookAt_146 : decode cYa_lookAt 146 = .ok (.iadd, 1) := by decide +kernel
theorem dYa_lookAt_147 : decode cYa_lookAt 147 = .ok (.putfield 78, 3) := by decide +kernel
theorem dYa_lookAt_150 : decode cYa_lookAt 150 = .ok (.iconst 1, 1) := by decide +kernel
theorem dYa_lookAt_151 : decode cYa_lookAt 151 = .ok (.ireturn, 1) := by decide +kernel
theorem dYa_tryTakers_0 : decode cYa_tryTakers 0 = .ok (.iconst 0, 1) := by decide +kernel
theorem dYa_tryTakers_1 : decode cYa_tryTakers 1 = .ok (.istore 5, 2) := by decide +kernel
theorem dYa_tryTakers_3 : decode cYa_tryTakers 3 = .ok (.iload 5, 2) := by decide +kernel
theorem dYa_tryTakers_5 : decode cYa_tryTakers 5 = .ok (.aload_n 0, 1) := by decide +kernel
theorem dYa_tryTakers_6 : decode cYa_tryTakers 6 = .ok (.getfield 43, 3) := by decide +kernel
theorem dYa_tryTakers_9 : decode cYa_tryTakers 9 = .ok (.if_icmp .ge 74, 3) := by decide +kernel
theorem dYa_tryTakers_12 : decode cYa_tryTakers 12 = .ok (.iconst 0, 1) := by decide +kernel
theorem dYa_tryTakers_13 : decode cYa_tryTakers 13 = .ok (.istore 6, 2) := by decide +kernel
theorem dYa_tryTakers_15 : decode cYa_tryTakers 15 = .ok (.iload 6, 2) := by decide +kernel
theorem dYa_tryTakers_17 : decode cYa_tryTakers 17 = .ok (.bipush 12, 2) := by decide +kernel
theorem dYa_tryTakers_19 : decode cYa_tryTakers 19 = .ok (.if_icmp .ge 58, 3) := by decide +kernel
theorem dYa_tryTakers_22 : decode cYa_tryTakers 22 = .ok (.iload 5, 2) := by decide +kernel
theorem dYa_tryTakers_24 : decode cYa_tryTakers 24 = .ok (.iload_n 2, 1) := by decide +kernel
theorem dYa_tryTakers_25 : decode cYa_tryTakers 25 = .ok (.if_icmp .eq 52, 3) := by decide +kernel
theorem dYa_tryTakers_28 : decode cYa_tryTakers 28 = .ok (.aload_n 0, 1) := by decide +kernel
theorem dYa_tryTakers_29 : decode cYa_tryTakers 29 = .ok (.aload_n 1, 1) := by decide +kernel
theorem dYa_tryTakers_30 : decode cYa_tryTakers 30 = .ok (.iload 5, 2) := by decide +kernel
theorem dYa_tryTakers_32 : decode cYa_tryTakers 32 = .ok (.iload 6, 2) := by decide +kernel
theorem dYa_tryTakers_34 : decode cYa_tryTakers 34 = .ok (.invokevirtual 171, 3) := by decide +kernel
theorem dYa_tryTakers_37 : decode cYa_tryTakers 37 = .ok (.astore 7, 2) := by decide +kernel
theorem dYa_tryTakers_39 : decode cYa_tryTakers 39 = .ok (.aload 7, 2) := by decide +kernel
theorem dYa_tryTakers_41 : decode cYa_tryTakers 41 = .ok (.ifnull 30, 3) := by decide +kernel
theorem dYa_tryTakers_44 : decode cYa_tryTakers 44 = .ok (.aload 7, 2) := by decide +kernel
theorem dYa_tryTakers_46 : decode cYa_tryTakers 46 = .ok (.getfield 175, 3) := by decide +kernel
theorem dYa_tryTakers_49 : decode cYa_tryTakers 49 = .ok (.iload 4, 2) := by decide +kernel
theorem dYa_tryTakers_51 : decode cYa_tryTakers 51 = .ok (.ineg, 1) := by decide +kernel
theorem dYa_tryTakers_52 : decode cYa_tryTakers 52 = .ok (.if_icmp .ne 19, 3) := by decide +kernel
theorem dYa_tryTakers_55 : decode cYa_tryTakers 55 = .ok (.aload_n 0, 1) := by decide +kernel
theorem dYa_tryTakers_56 : decode cYa_tryTakers 56 = .ok (.aload_n 1, 1) := by decide +kernel
theorem dYa_tryTakers_57 : decode cYa_tryTakers 57 = .ok (.iload_n 2, 1) := by decide +kernel
theorem dYa_tryTakers_58 : decode cYa_tryTakers 58 = .ok (.iload_n 3, 1) := by decide +kernel
theorem dYa_tryTakers_59 : decode cYa_tryTakers 59 = .ok (.iload 5, 2) := by decide +kernel
theorem dYa_tryTakers_61 : decode cYa_tryTakers 61 = .ok (.iload 6, 2) := by decide +kernel
theorem dYa_tryTakers_63 : decode cYa_tryTakers 63 = .ok (.invokevirtual 178, 3) := by decide +kernel
theorem dYa_tryTakers_66 : decode cYa_tryTakers 66 = .ok (.ifCond .ne 5, 3) := by decide +kernel
theorem dYa_tryTakers_69 : decode cYa_tryTakers 69 = .ok (.iconst 0, 1) := by decide +kernel
theorem dYa_tryTakers_70 : decode cYa_tryTakers 70 = .ok (.ireturn, 1) := by decide +kernel
theorem dYa_tryTakers_71 : decode cYa_tryTakers 71 = .ok (.iinc 6 1, 3) := by decide +kernel
theorem dYa_tryTakers_74 : decode cYa_tryTakers 74 = .ok (.goto (-59), 3) := by decide +kernel
theorem dYa_tryTakers_77 : decode cYa_tryTakers 77 = .ok (.iinc 5 1, 3) := by decide +kernel
theorem dYa_tryTakers_80 : decode cYa_tryTakers 80 = .ok (.goto (-77), 3) := by decide +kernel
theorem dYa_tryTakers_83 : decode cYa_tryTakers 83 = .ok (.iconst 1, 1) := by decide +kernel
theorem dYa_tryTakers_84 : decode cYa_tryTakers 84 = .ok (.ireturn, 1) := by decide +kernel
theorem dYa_wayFrom_0 : decode cYa_wayFrom 0 = .ok (.aload_n 0, 1) := by decide +kernel
theorem dYa_wayFrom_1 : decode cYa_wayFrom 1 = .ok (.iload_n 2, 1) := by decide +kernel
theorem dYa_wayFrom_2 : decode cYa_wayFrom 2 = .ok (.iload_n 3, 1) := by decide +kernel
theorem dYa_wayFrom_3 : decode cYa_wayFrom 3 = .ok (.invokevirtual 129, 3) := by decide +kernel
theorem dYa_wayFrom_6 : decode cYa_wayFrom 6 = .ok (.astore 4, 2) := by decide +kernel
theorem dYa_wayFrom_8 : decode cYa_wayFrom 8 = .ok (.aload 4, 2) := by decide +kernel
theorem dYa_wayFrom_10 : decode cYa_wayFrom 10 = .ok (.ifnull 22, 3) := by decide +kernel
theorem dYa_wayFrom_13 : decode cYa_wayFrom 13 = .ok (.aload 4, 2) := by decide +kernel
theorem dYa_wayFrom_15 : decode cYa_wayFrom 15 = .ok (.getfield 188, 3) := by decide +kernel
theorem dYa_wayFrom_18 : decode cYa_wayFrom 18 = .ok (.aload_n 1, 1) := by decide +kernel
theorem dYa_wayFrom_19 : decode cYa_wayFrom 19 = .ok (.getfield 191, 3) := by decide +kernel
theorem dYa_wayFrom_22 : decode cYa_wayFrom 22 = .ok (.iload_n 2, 1) := by decide +kernel
theorem dYa_wayFrom_23 : decode cYa_wayFrom 23 = .ok (.iaload, 1) := by decide +kernel
theorem dYa_wayFrom_24 : decode cYa_wayFrom 24 = .ok (.if_icmp .ne 8, 3) := by decide +kernel
theorem dYa_wayFrom_27 : decode cYa_wayFrom 27 = .ok (.aload 4, 2) := by decide +kernel
theorem dYa_wayFrom_29 : decode cYa_wayFrom 29 = .ok (.goto 4, 3) := by decide +kernel
theorem dYa_wayFrom_32 : decode cYa_wayFrom 32 = .ok (.aconst_null, 1) := by decide +kernel
theorem dYa_wayFrom_33 : decode cYa_wayFrom 33 = .ok (.areturn, 1) := by decide +kernel
theorem dYa_tryMove_0 : decode cYa_tryMove 0 = .ok (.aload_n 0, 1) := by decide +kernel
theorem dYa_tryMove_1 : decode cYa_tryMove 1 = .ok (.iload_n 2, 1) := by decide +kernel
theorem dYa_tryMove_2 : decode cYa_tryMove 2 = .ok (.iload_n 3, 1) := by decide +kernel
theorem dYa_tryMove_3 : decode cYa_tryMove 3 = .ok (.invokevirtual 129, 3) := by decide +kernel
theorem dYa_tryMove_6 : decode cYa_tryMove 6 = .ok (.astore 6, 2) := by decide +kernel
theorem dYa_tryMove_8 : decode cYa_tryMove 8 = .ok (.aload_n 0, 1) := by decide +kernel
theorem dYa_tryMove_9 : decode cYa_tryMove 9 = .ok (.iload 4, 2) := by decide +kernel
theorem dYa_tryMove_11 : decode cYa_tryMove 11 = .ok (.iload 5, 2) := by decide +kernel
theorem dYa_tryMove_13 : decode cYa_tryMove 13 = .ok (.invokevirtual 129, 3) := by decide +kernel
theorem dYa_tryMove_16 : decode cYa_tryMove 16 = .ok (.astore 7, 2) := by decide +kernel
theorem dYa_tryMove_18 : decode cYa_tryMove 18 = .ok (.aload 6, 2) := by decide +kernel
theorem dYa_tryMove_20 : decode cYa_tryMove 20 = .ok (.ifnonnull 5, 3) := by decide +kernel
theorem dYa_tryMove_23 : decode cYa_tryMove 23 = .ok (.iconst 1, 1) := by decide +kernel
theorem dYa_tryMove_24 : decode cYa_tryMove 24 = .ok (.ireturn, 1) := by decide +kernel
theorem dYa_tryMove_25 : decode cYa_tryMove 25 = .ok (.aload_n 1, 1) := by decide +kernel
theorem dYa_tryMove_26 : decode cYa_tryMove 26 = .ok (.getfield 191, 3) := by decide +kernel
theorem dYa_tryMove_29 : decode cYa_tryMove 29 = .ok (.iconst 0, 1) := by decide +kernel
theorem dYa_tryMove_30 : decode cYa_tryMove 30 = .ok (.aload_n 0, 1) := by decide +kernel
theorem dYa_tryMove_31 : decode cYa_tryMove 31 = .ok (.getfield 31, 3) := by decide +kernel
theorem dYa_tryMove_34 : decode cYa_tryMove 34 = .ok (.iconst 0, 1) := by decide +kernel
theorem dYa_tryMove_35 : decode cYa_tryMove 35 = .ok (.iconst 3, 1) := by decide +kernel
theorem dYa_tryMove_36 : decode cYa_tryMove 36 = .ok (.invokestatic 193, 3) := by decide +kernel
theorem dYa_tryMove_39 : decode cYa_tryMove 39 = .ok (.aload_n 0, 1) := by decide +kernel
theorem dYa_tryMove_40 : decode cYa_tryMove 40 = .ok (.getfield 31, 3) := by decide +kernel
theorem dYa_tryMove_43 : decode cYa_tryMove 43 = .ok (.iload_n 2, 1) := by decide +kernel
theorem dYa_tryMove_44 : decode cYa_tryMove 44 = .ok (.aload 6, 2) := by decide +kernel
theorem dYa_tryMove_46 : decode cYa_tryMove 46 = .ok (.getfield 199, 3) := by decide +kernel
theorem dYa_tryMove_49 : decode cYa_tryMove 49 = .ok (.iastore, 1) := by decide +kernel
theorem dYa_tryMove_50 : decode cYa_tryMove 50 = .ok (.aload 7, 2) := by decide +kernel
theorem dYa_tryMove_52 : decode cYa_tryMove 52 = .ok (.ifnull 15, 3) := by decide +kernel
theorem dYa_tryMove_55 : decode cYa_tryMove 55 = .ok (.aload_n 0, 1) := by decide +kernel
theorem dYa_tryMove_56 : decode cYa_tryMove 56 = .ok (.getfield 31, 3) := by decide +kernel
theorem dYa_tryMove_59 : decode cYa_tryMove 59 = .ok (.iload 4, 2) := by decide +kernel
theorem dYa_tryMove_61 : decode cYa_tryMove 61 = .ok (.aload 7, 2) := by decide +kernel
theorem dYa_tryMove_63 : decode cYa_tryMove 63 = .ok (.getfield 199, 3) := by decide +kernel
theorem dYa_tryMove_66 : decode cYa_tryMove 66 = .ok (.iastore, 1) := by decide +kernel
theorem dYa_tryMove_67 : decode cYa_tryMove 67 = .ok (.aload_n 0, 1) := by decide +kernel
theorem dYa_tryMove_68 : decode cYa_tryMove 68 = .ok (.getfield 39, 3) := by decide +kernel
theorem dYa_tryMove_71 : decode cYa_tryMove 71 = .ok (.aload_n 1, 1) := by decide +kernel
theorem dYa_tryMove_72 : decode cYa_tryMove 72 = .ok (.getfield 113, 3) := by decide +kernel
theorem dYa_tryMove_75 : decode cYa_tryMove 75 = .ok (.invokevirtual 116, 3) := by decide +kernel
theorem dYa_tryMove_78 : decode cYa_tryMove 78 = .ok (.aload_n 0, 1) := by decide +kernel
theorem dYa_tryMove_79 : decode cYa_tryMove 79 = .ok (.aload_n 0, 1) := by decide +kernel
theorem dYa_tryMove_80 : decode cYa_tryMove 80 = .ok (.getfield 39, 3) := by decide +kernel
theorem dYa_tryMove_83 : decode cYa_tryMove 83 = .ok (.aload 6, 2) := by decide +kernel
theorem dYa_tryMove_85 : decode cYa_tryMove 85 = .ok (.aload 7, 2) := by decide +kernel
theorem dYa_tryMove_87 : decode cYa_tryMove 87 = .ok (.invokevirtual 202, 3) := by decide +kernel
theorem dYa_tryMove_90 : decode cYa_tryMove 90 = .ok (.aload_n 0, 1) := by decide +kernel
theorem dYa_tryMove_91 : decode cYa_tryMove 91 = .ok (.aload_n 0, 1) := by decide +kernel
theorem dYa_tryMove_92 : decode cYa_tryMove 92 = .ok (.getfield 39, 3) := by decide +kernel
theorem dYa_tryMove_95 : decode cYa_tryMove 95 = .ok (.invokevirtual 94, 3) := by decide +kernel
theorem dYa_tryMove_98 : decode cYa_tryMove 98 = .ok (.aload_n 0, 1) := by decide +kernel
theorem dYa_tryMove_99 : decode cYa_tryMove 99 = .ok (.getfield 39, 3) := by decide +kernel
theorem dYa_tryMove_102 : decode cYa_tryMove 102 = .ok (.getfield 97, 3) := by decide +kernel
theorem dYa_tryMove_105 : decode cYa_tryMove 105 = .ok (.ifCond .eq 5, 3) := by decide +kernel
theorem dYa_tryMove_108 : decode cYa_tryMove 108 = .ok (.iconst 1, 1) := by decide +kernel
theorem dYa_tryMove_109 : decode cYa_tryMove 109 = .ok (.ireturn, 1) := by decide +kernel
theorem dYa_tryMove_110 : decode cYa_tryMove 110 = .ok (.aload_n 1, 1) := by decide +kernel
theorem dYa_tryMove_111 : decode cYa_tryMove 111 = .ok (.dup, 1) := by decide +kernel
theorem dYa_tryMove_112 : decode cYa_tryMove 112 = .ok (.getfield 186, 3) := by decide +kernel
theorem dYa_tryMove_115 : decode cYa_tryMove 115 = .ok (.iconst 1, 1) := by decide +kernel
theorem dYa_tryMove_116 : decode cYa_tryMove 116 = .ok (.iadd, 1) := by decide +kernel
theorem dYa_tryMove_117 : decode cYa_tryMove 117 = .ok (.putfield 186, 3) := by decide +kernel
theorem dYa_tryMove_120 : decode cYa_tryMove 120 = .ok (.aload_n 0, 1) := by decide +kernel
theorem dYa_tryMove_121 : decode cYa_tryMove 121 = .ok (.invokevirtual 110, 3) := by decide +kernel
theorem dYa_tryMove_124 : decode cYa_tryMove 124 = .ok (.aload_n 0, 1) := by decide +kernel
theorem dYa_tryMove_125 : decode cYa_tryMove 125 = .ok (.invokevirtual 206, 3) := by decide +kernel
theorem dYa_tryMove_128 : decode cYa_tryMove 128 = .ok (.ifCond .eq 15, 3) := by decide +kernel
theorem dYa_tryMove_131 : decode cYa_tryMove 131 = .ok (.aload_n 1, 1) := by decide +kernel
theorem dYa_tryMove_132 : decode cYa_tryMove 132 = .ok (.dup, 1) := by decide +kernel
theorem dYa_tryMove_133 : decode cYa_tryMove 133 = .ok (.getfield 187, 3) := by decide +kernel
theorem dYa_tryMove_136 : decode cYa_tryMove 136 = .ok (.iconst 1, 1) := by decide +kernel
theorem dYa_tryMove_137 : decode cYa_tryMove 137 = .ok (.iadd, 1) := by decide +kernel
theorem dYa_tryMove_138 : decode cYa_tryMove 138 = .ok (.putfield 187, 3) := by decide +kernel
theorem dYa_tryMove_141 : decode cYa_tryMove 141 = .ok (.iconst 1, 1) := by decide +kernel
theorem dYa_tryMove_142 : decode cYa_tryMove 142 = .ok (.ireturn, 1) := by decide +kernel
theorem dYa_tryMove_143 : decode cYa_tryMove 143 = .ok (.aload_n 0, 1) := by decide +kernel
theorem dYa_tryMove_144 : decode cYa_tryMove 144 = .ok (.getfield 65, 3) := by decide +kernel
theorem dYa_tryMove_147 : decode cYa_tryMove 147 = .ok (.sipush 200, 3) := by decide +kernel
theorem dYa_tryMove_150 : decode cYa_tryMove 150 = .ok (.if_icmp .lt 5, 3) := by decide +kernel
theorem dYa_tryMove_153 : decode cYa_tryMove 153 = .ok (.iconst 0, 1) := by decide +kernel
theorem dYa_tryMove_154 : decode cYa_tryMove 154 = .ok (.ireturn, 1) := by decide +kernel
theorem dYa_tryMove_155 : decode cYa_tryMove 155 = .ok (.aload_n 0, 1) := by decide +kernel
theorem dYa_tryMove_156 : decode cYa_tryMove 156 = .ok (.aload_n 1, 1) := by decide +kernel
theorem dYa_tryMove_157 : decode cYa_tryMove 157 = .ok (.invokevirtual 100, 3) := by decide +kernel
theorem dYa_tryMove_160 : decode cYa_tryMove 160 = .ok (.astore 8, 2) := by decide +kernel
theorem dYa_tryMove_162 : decode cYa_tryMove 162 = .ok (.aload 8, 2) := by decide +kernel
theorem dYa_tryMove_164 : decode cYa_tryMove 164 = .ok (.getfield 113, 3) := by decide +kernel
theorem dYa_tryMove_167 : decode cYa_tryMove 167 = .ok (.aload_n 0, 1) := by decide +kernel
theorem dYa_tryMove_168 : decode cYa_tryMove 168 = .ok (.getfield 39, 3) := by decide +kernel
theorem dYa_tryMove_171 : decode cYa_tryMove 171 = .ok (.invokevirtual 116, 3) := by decide +kernel
theorem dYa_tryMove_174 : decode cYa_tryMove 174 = .ok (.aload 8, 2) := by decide +kernel
theorem dYa_tryMove_176 : decode cYa_tryMove 176 = .ok (.getfield 104, 3) := by decide +kernel
theorem dYa_tryMove_179 : decode cYa_tryMove 179 = .ok (.aload_n 1, 1) := by decide +kernel
theorem dYa_tryMove_180 : decode cYa_tryMove 180 = .ok (.getfield 104, 3) := by decide +kernel
theorem dYa_tryMove_183 : decode cYa_tryMove 183 = .ok (.invokevirtual 116, 3) := by decide +kernel
theorem dYa_tryMove_186 : decode cYa_tryMove 186 = .ok (.aload_n 0, 1) := by decide +kernel
theorem dYa_tryMove_187 : decode cYa_tryMove 187 = .ok (.aload 8, 2) := by decide +kernel
theorem dYa_tryMove_189 : decode cYa_tryMove 189 = .ok (.getfield 104, 3) := by decide +kernel
theorem dYa_tryMove_192 : decode cYa_tryMove 192 = .ok (.aload 6, 2) := by decide +kernel
theorem dYa_tryMove_194 : decode cYa_tryMove 194 = .ok (.aload 7, 2) := by decide +kernel
theorem dYa_tryMove_196 : decode cYa_tryMove 196 = .ok (.invokevirtual 202, 3) := by decide +kernel
theorem dYa_tryMove_199 : decode cYa_tryMove 199 = .ok (.aload 8, 2) := by decide +kernel
theorem dYa_tryMove_201 : decode cYa_tryMove 201 = .ok (.aload 8, 2) := by decide +kernel
theorem dYa_tryMove_203 : decode cYa_tryMove 203 = .ok (.getfield 104, 3) := by decide +kernel
theorem dYa_tryMove_206 : decode cYa_tryMove 206 = .ok (.invokestatic 210, 3) := by decide +kernel
theorem dYa_tryMove_209 : decode cYa_tryMove 209 = .ok (.putfield 107, 3) := by decide +kernel
theorem dYa_tryMove_212 : decode cYa_tryMove 212 = .ok (.aload_n 0, 1) := by decide +kernel
theorem dYa_tryMove_213 : decode cYa_tryMove 213 = .ok (.aload 8, 2) := by decide +kernel
theorem dYa_tryMove_215 : decode cYa_tryMove 215 = .ok (.getfield 104, 3) := by decide +kernel
theorem dYa_tryMove_218 : decode cYa_tryMove 218 = .ok (.invokevirtual 94, 3) := by decide +kernel
theorem dYa_tryMove_221 : decode cYa_tryMove 221 = .ok (.aload 8, 2) := by decide +kernel
theorem dYa_tryMove_223 : decode cYa_tryMove 223 = .ok (.getfield 214, 3) := by decide +kernel
theorem dYa_tryMove_226 : decode cYa_tryMove 226 = .ok (.iconst 0, 1) := by decide +kernel
theorem dYa_tryMove_227 : decode cYa_tryMove 227 = .ok (.iload_n 2, 1) := by decide +kernel
theorem dYa_tryMove_228 : decode cYa_tryMove 228 = .ok (.iastore, 1) := by decide +kernel
theorem dYa_tryMove_229 : decode cYa_tryMove 229 = .ok (.aload 8, 2) := by decide +kernel
theorem dYa_tryMove_231 : decode cYa_tryMove 231 = .ok (.getfield 214, 3) := by decide +kernel
theorem dYa_tryMove_234 : decode cYa_tryMove 234 = .ok (.iconst 1, 1) := by decide +kernel
theorem dYa_tryMove_235 : decode cYa_tryMove 235 = .ok (.iload_n 3, 1) := by decide +kernel
theorem dYa_tryMove_236 : decode cYa_tryMove 236 = .ok (.iastore, 1) := by decide +kernel
theorem dYa_tryMove_237 : decode cYa_tryMove 237 = .ok (.aload 8, 2) := by decide +kernel
theorem dYa_tryMove_239 : decode cYa_tryMove 239 = .ok (.getfield 214, 3) := by decide +kernel
theorem dYa_tryMove_242 : decode cYa_tryMove 242 = .ok (.iconst 2, 1) := by decide +kernel
theorem dYa_tryMove_243 : decode cYa_tryMove 243 = .ok (.iload 4, 2) := by decide +kernel
theorem dYa_tryMove_245 : decode cYa_tryMove 245 = .ok (.iastore, 1) := by decide +kernel
theorem dYa_tryMove_246 : decode cYa_tryMove 246 = .ok (.aload 8, 2) := by decide +kernel
theorem dYa_tryMove_248 : decode cYa_tryMove 248 = .ok (.getfield 214, 3) := by decide +kernel
theorem dYa_tryMove_251 : decode cYa_tryMove 251 = .ok (.iconst 3, 1) := by decide +kernel
theorem dYa_tryMove_252 : decode cYa_tryMove 252 = .ok (.iload 5, 2) := by decide +kernel
theorem dYa_tryMove_254 : decode cYa_tryMove 254 = .ok (.iastore, 1) := by decide +kernel
theorem dYa_tryMove_255 : decode cYa_tryMove 255 = .ok (.iconst 1, 1) := by decide +kernel
theorem dYa_tryMove_256 : decode cYa_tryMove 256 = .ok (.ireturn, 1) := by decide +kernel
theorem dYa_follow_0 : decode cYa_follow 0 = .ok (.aload_n 1, 1) := by decide +kernel
theorem dYa_follow_1 : decode cYa_follow 1 = .ok (.aload_n 2, 1) := by decide +kernel
theorem dYa_follow_2 : decode cYa_follow 2 = .ok (.invokestatic 217, 3) := by decide +kernel
theorem dYa_follow_5 : decode cYa_follow 5 = .ok (.aload_n 2, 1) := by decide +kernel
theorem dYa_follow_6 : decode cYa_follow 6 = .ok (.getfield 221, 3) := by decide +kernel
theorem dYa_follow_9 : decode cYa_follow 9 = .ok (.istore 4, 2) := by decide +kernel
theorem dYa_follow_11 : decode cYa_follow 11 = .ok (.aload_n 3, 1) := by decide +kernel
theorem dYa_follow_12 : decode cYa_follow 12 = .ok (.ifnull 17, 3) := by decide +kernel
theorem dYa_follow_15 : decode cYa_follow 15 = .ok (.aload_n 1, 1) := by decide +kernel
theorem dYa_follow_16 : decode cYa_follow 16 = .ok (.aload_n 3, 1) := by decide +kernel
theorem dYa_follow_17 : decode cYa_follow 17 = .ok (.invokestatic 217, 3) := by decide +kernel
theorem dYa_follow_20 : decode cYa_follow 20 = .ok (.iload 4, 2) := by decide +kernel
theorem dYa_follow_22 : decode cYa_follow 22 = .ok (.aload_n 3, 1) := by decide +kernel
theorem dYa_follow_23 : decode cYa_follow 23 = .ok (.getfield 221, 3) := by decide +kernel
theorem dYa_follow_26 : decode cYa_follow 26 = .ok (.ior, 1) := by decide +kernel
theorem dYa_follow_27 : decode cYa_follow 27 = .ok (.istore 4, 2) := by decide +kernel
theorem dYa_follow_29 : decode cYa_follow 29 = .ok (.aload_n 1, 1) := by decide +kernel
theorem dYa_follow_30 : decode cYa_follow 30 = .ok (.iload 4, 2) := by decide +kernel
theorem dYa_follow_32 : decode cYa_follow 32 = .ok (.invokevirtual 224, 3) := by decide +kernel
theorem dYa_follow_35 : decode cYa_follow 35 = .ok (.aload_n 0, 1) := by decide +kernel
theorem dYa_follow_36 : decode cYa_follow 36 = .ok (.aload_n 1, 1) := by decide +kernel
theorem dYa_follow_37 : decode cYa_follow 37 = .ok (.invokevirtual 90, 3) := by decide +kernel
theorem dYa_follow_40 : decode cYa_follow 40 = .ok (.return_, 1) := by decide +kernel
theorem dYa_obey_0 : decode cYa_obey 0 = .ok (.iconst 0, 1) := by decide +kernel
theorem dYa_obey_1 : decode cYa_obey 1 = .ok (.istore_n 2, 1) := by decide +kernel
theorem dYa_obey_2 : decode cYa_obey 2 = .ok (.iload_n 2, 1) := by decide +kernel
theorem dYa_obey_3 : decode cYa_obey 3 = .ok (.aload_n 1, 1) := by decide +kernel
theorem dYa_obey_4 : decode cYa_obey 4 = .ok (.getfield 152, 3) := by decide +kernel
theorem dYa_obey_7 : decode cYa_obey 7 = .ok (.if_icmp .ge 40, 3) := by decide +kernel
theorem dYa_obey_10 : decode cYa_obey 10 = .ok (.iload_n 2, 1) := by decide +kernel
theorem dYa_obey_11 : decode cYa_obey 11 = .ok (.iconst 3, 1) := by decide +kernel
theorem dYa_obey_12 : decode cYa_obey 12 = .ok (.if_icmp .ge 35, 3) := by decide +kernel
theorem dYa_obey_15 : decode cYa_obey 15 = .ok (.aload_n 0, 1) := by decide +kernel
theorem dYa_obey_16 : decode cYa_obey 16 = .ok (.aload_n 1, 1) := by decide +kernel
theorem dYa_obey_17 : decode cYa_obey 17 = .ok (.getfield 157, 3) := by decide +kernel
theorem dYa_obey_20 : decode cYa_obey 20 = .ok (.iload_n 2, 1) := by decide +kernel
theorem dYa_obey_21 : decode cYa_obey 21 = .ok (.iaload, 1) := by decide +kernel
theorem dYa_obey_22 : decode cYa_obey 22 = .ok (.iconst 4, 1) := by decide +kernel
theorem dYa_obey_23 : decode cYa_obey 23 = .ok (.idiv, 1) := by decide +kernel
theorem dYa_obey_24 : decode cYa_obey 24 = .ok (.aload_n 1, 1) := by decide +kernel
theorem dYa_obey_25 : decode cYa_obey 25 = .ok (.getfield 157, 3) := by decide +kernel
theorem dYa_obey_28 : decode cYa_obey 28 = .ok (.iload_n 2, 1) := by decide +kernel
theorem dYa_obey_29 : decode cYa_obey 29 = .ok (.iaload, 1) := by decide +kernel
theorem dYa_obey_30 : decode cYa_obey 30 = .ok (.iconst 4, 1) := by decide +kernel
theorem dYa_obey_31 : decode cYa_obey 31 = .ok (.irem, 1) := by decide +kernel
theorem dYa_obey_32 : decode cYa_obey 32 = .ok (.aload_n 1, 1) := by decide +kernel
theorem dYa_obey_33 : decode cYa_obey 33 = .ok (.getfield 160, 3) := by decide +kernel
theorem dYa_obey_36 : decode cYa_obey 36 = .ok (.iload_n 2, 1) := by decide +kernel
theorem dYa_obey_37 : decode cYa_obey 37 = .ok (.iaload, 1) := by decide +kernel
theorem dYa_obey_38 : decode cYa_obey 38 = .ok (.invokevirtual 228, 3) := by decide +kernel
theorem dYa_obey_41 : decode cYa_obey 41 = .ok (.iinc 2 1, 3) := by decide +kernel
theorem dYa_obey_44 : decode cYa_obey 44 = .ok (.goto (-42), 3) := by decide +kernel
theorem dYa_obey_47 : decode cYa_obey 47 = .ok (.return_, 1) := by decide +kernel
theorem dYa_stay_0 : decode cYa_stay 0 = .ok (.aload_n 1, 1) := by decide +kernel
theorem dYa_stay_1 : decode cYa_stay 1 = .ok (.invokevirtual 232, 3) := by decide +kernel
theorem dYa_stay_4 : decode cYa_stay 4 = .ok (.aload_n 0, 1) := by decide +kernel
theorem dYa_stay_5 : decode cYa_stay 5 = .ok (.aload_n 1, 1) := by decide +kernel
theorem dYa_stay_6 : decode cYa_stay 6 = .ok (.invokevirtual 90, 3) := by decide +kernel
theorem dYa_stay_9 : decode cYa_stay 9 = .ok (.return_, 1) := by decide +kernel
theorem dYa_confine_0 : decode cYa_confine 0 = .ok (.iconst 0, 1) := by decide +kernel
theorem dYa_confine_1 : decode cYa_confine 1 = .ok (.istore_n 2, 1) := by decide +kernel
theorem dYa_confine_2 : decode cYa_confine 2 = .ok (.iload_n 2, 1) := by decide +kernel
theorem dYa_confine_3 : decode cYa_confine 3 = .ok (.aload_n 0, 1) := by decide +kernel
theorem dYa_confine_4 : decode cYa_confine 4 = .ok (.getfield 43, 3) := by decide +kernel
theorem dYa_confine_7 : decode cYa_confine 7 = .ok (.if_icmp .ge 68, 3) := by decide +kernel
theorem dYa_confine_10 : decode cYa_confine 10 = .ok (.aload_n 0, 1) := by decide +kernel
theorem dYa_confine_11 : decode cYa_confine 11 = .ok (.iload_n 2, 1) := by decide +kernel
theorem dYa_confine_12 : decode cYa_confine 12 = .ok (.aload_n 0, 1) := by decide +kernel
theorem dYa_confine_13 : decode cYa_confine 13 = .ok (.getfield 31, 3) := by decide +kernel
theorem dYa_confine_16 : decode cYa_confine 16 = .ok (.iload_n 2, 1) := by decide +kernel
theorem dYa_confine_17 : decode cYa_confine 17 = .ok (.iaload, 1) := by decide +kernel
theorem dYa_confine_18 : decode cYa_confine 18 = .ok (.invokevirtual 68, 3) := by decide +kernel
theorem dYa_confine_21 : decode cYa_confine 21 = .ok (.astore_n 3, 1) := by decide +kernel
theorem dYa_confine_22 : decode cYa_confine 22 = .ok (.iconst 0, 1) := by decide +kernel
theorem dYa_confine_23 : decode cYa_confine 23 = .ok (.istore 4, 2) := by decide +kernel
theorem dYa_confine_25 : decode cYa_confine 25 = .ok (.aload_n 3, 1) := by decide +kernel
theorem dYa_confine_26 : decode cYa_confine 26 = .ok (.ifnull 43, 3) := by decide +kernel
theorem dYa_confine_29 : decode cYa_confine 29 = .ok (.iload 4, 2) := by decide +kernel
theorem dYa_confine_31 : decode cYa_confine 31 = .ok (.aload_n 3, 1) := by decide +kernel
theorem dYa_confine_32 : decode cYa_confine 32 = .ok (.getfield 137, 3) := by decide +kernel
theorem dYa_confine_35 : decode cYa_confine 35 = .ok (.if_icmp .ge 34, 3) := by decide +kernel
theorem dYa_confine_38 : decode cYa_confine 38 = .ok (.iload 4, 2) := by decide +kernel
theorem dYa_confine_40 : decode cYa_confine 40 = .ok (.iconst 2, 1) := by decide +kernel
theorem dYa_confine_41 : decode cYa_confine 41 = .ok (.if_icmp .ge 28, 3) := by decide +kernel
theorem dYa_confine_44 : decode cYa_confine 44 = .ok (.aload_n 1, 1) := by decide +kernel
theorem dYa_confine_45 : decode cYa_confine 45 = .ok (.aload_n 3, 1) := by decide +kernel
theorem dYa_confine_46 : decode cYa_confine 46 = .ok (.getfield 142, 3) := by decide +kernel
theorem dYa_confine_49 : decode cYa_confine 49 = .ok (.iload 4, 2) := by decide +kernel
theorem dYa_confine_51 : decode cYa_confine 51 = .ok (.iaload, 1) := by decide +kernel
theorem dYa_confine_52 : decode cYa_confine 52 = .ok (.iconst 0, 1) := by decide +kernel
theorem dYa_confine_53 : decode cYa_confine 53 = .ok (.aload_n 3, 1) := by decide +kernel
theorem dYa_confine_54 : decode cYa_confine 54 = .ok (.getfield 145, 3) := by decide +kernel
theorem dYa_confine_57 : decode cYa_confine 57 = .ok (.iload 4, 2) := by decide +kernel
theorem dYa_confine_59 : decode cYa_confine 59 = .ok (.iaload, 1) := by decide +kernel
theorem dYa_confine_60 : decode cYa_confine 60 = .ok (.invokevirtual 228, 3) := by decide +kernel
theorem dYa_confine_63 : decode cYa_confine 63 = .ok (.iinc 4 1, 3) := by decide +kernel
theorem dYa_confine_66 : decode cYa_confine 66 = .ok (.goto (-41), 3) := by decide +kernel
theorem dYa_confine_69 : decode cYa_confine 69 = .ok (.iinc 2 1, 3) := by decide +kernel
theorem dYa_confine_72 : decode cYa_confine 72 = .ok (.goto (-70), 3) := by decide +kernel
theorem dYa_confine_75 : decode cYa_confine 75 = .ok (.return_, 1) := by decide +kernel
theorem dYa_letGreatGo_0 : decode cYa_letGreatGo 0 = .ok (.aload_n 0, 1) := by decide +kernel
theorem dYa_letGreatGo_1 : decode cYa_letGreatGo 1 = .ok (.getfield 23, 3) := by decide +kernel
theorem dYa_letGreatGo_4 : decode cYa_letGreatGo 4 = .ok (.ifCond .eq 24, 3) := by decide +kernel
theorem dYa_letGreatGo_7 : decode cYa_letGreatGo 7 = .ok (.aload_n 0, 1) := by decide +kernel
theorem dYa_letGreatGo_8 : decode cYa_letGreatGo 8 = .ok (.getfield 39, 3) := by decide +kernel
theorem dYa_letGreatGo_11 : decode cYa_letGreatGo 11 = .ok (.aload_n 0, 1) := by decide +kernel
theorem dYa_letGreatGo_12 : decode cYa_letGreatGo 12 = .ok (.getfield 27, 3) := by decide +kernel
theorem dYa_letGreatGo_15 : decode cYa_letGreatGo 15 = .ok (.invokevirtual 235, 3) := by decide +kernel
theorem dYa_letGreatGo_18 : decode cYa_letGreatGo 18 = .ok (.ifCond .eq 10, 3) := by decide +kernel
theorem dYa_letGreatGo_21 : decode cYa_letGreatGo 21 = .ok (.aload_n 0, 1) := by decide +kernel
theorem dYa_letGreatGo_22 : decode cYa_letGreatGo 22 = .ok (.getfield 39, 3) := by decide +kernel
theorem dYa_letGreatGo_25 : decode cYa_letGreatGo 25 = .ok (.invokevirtual 239, 3) := by decide +kernel
theorem dYa_letGreatGo_28 : decode cYa_letGreatGo 28 = .ok (.return_, 1) := by decide +kernel
theorem dYa_isCovered_0 : decode cYa_isCovered 0 = .ok (.iconst 0, 1) := by decide +kernel
theorem dYa_isCovered_1 : decode cYa_isCovered 1 = .ok (.istore_n 1, 1) := by decide +kernel
theorem dYa_isCovered_2 : decode cYa_isCovered 2 = .ok (.iload_n 1, 1) := by decide +kernel
theorem dYa_isCovered_3 : decode cYa_isCovered 3 = .ok (.aload_n 0, 1) := by decide +kernel
theorem dYa_isCovered_4 : decode cYa_isCovered 4 = .ok (.getfield 65, 3) := by decide +kernel
theorem dYa_isCovered_7 : decode cYa_isCovered 7 = .ok (.if_icmp .ge 46, 3) := by decide +kernel
theorem dYa_isCovered_10 : decode cYa_isCovered 10 = .ok (.aload_n 0, 1) := by decide +kernel
theorem dYa_isCovered_11 : decode cYa_isCovered 11 = .ok (.iload_n 1, 1) := by decide +kernel
theorem dYa_isCovered_12 : decode cYa_isCovered 12 = .ok (.invokevirtual 242, 3) := by decide +kernel
theorem dYa_isCovered_15 : decode cYa_isCovered 15 = .ok (.astore_n 2, 1) := by decide +kernel
theorem dYa_isCovered_16 : decode cYa_isCovered 16 = .ok (.aload_n 2, 1) := by decide +kernel
theorem dYa_isCovered_17 : decode cYa_isCovered 17 = .ok (.ifnull 30, 3) := by decide +kernel
theorem dYa_isCovered_20 : decode cYa_isCovered 20 = .ok (.aload_n 2, 1) := by decide +kernel
theorem dYa_isCovered_21 : decode cYa_isCovered 21 = .ok (.aload_n 0, 1) := by decide +kernel
theorem dYa_isCovered_22 : decode cYa_isCovered 22 = .ok (.getfield 31, 3) := by decide +kernel
theorem dYa_isCovered_25 : decode cYa_isCovered 25 = .ok (.invokevirtual 246, 3) := by decide +kernel
theorem dYa_isCovered_28 : decode cYa_isCovered 28 = .ok (.ifCond .eq 19, 3) := by decide +kernel
theorem dYa_isCovered_31 : decode cYa_isCovered 31 = .ok (.aload_n 0, 1) := by decide +kernel
theorem dYa_isCovered_32 : decode cYa_isCovered 32 = .ok (.getfield 39, 3) := by decide +kernel
theorem dYa_isCovered_35 : decode cYa_isCovered 35 = .ok (.aload_n 2, 1) := by decide +kernel
theorem dYa_isCovered_36 : decode cYa_isCovered 36 = .ok (.getfield 113, 3) := by decide +kernel
theorem dYa_isCovered_39 : decode cYa_isCovered 39 = .ok (.invokevirtual 249, 3) := by decide +kernel
theorem dYa_isCovered_42 : decode cYa_isCovered 42 = .ok (.ifCond .eq 5, 3) := by decide +kernel
theorem dYa_isCovered_45 : decode cYa_isCovered 45 = .ok (.iconst 1, 1) := by decide +kernel
theorem dYa_isCovered_46 : decode cYa_isCovered 46 = .ok (.ireturn, 1) := by decide +kernel
theorem dYa_isCovered_47 : decode cYa_isCovered 47 = .ok (.iinc 1 1, 3) := by decide +kernel
theorem dYa_isCovered_50 : decode cYa_isCovered 50 = .ok (.goto (-48), 3) := by decide +kernel
theorem dYa_isCovered_53 : decode cYa_isCovered 53 = .ok (.iconst 0, 1) := by decide +kernel
theorem dYa_isCovered_54 : decode cYa_isCovered 54 = .ok (.ireturn, 1) := by decide +kernel
theorem dYa_newState_0 : decode cYa_newState 0 = .ok (.aload_n 0, 1) := by decide +kernel
theorem dYa_newState_1 : decode cYa_newState 1 = .ok (.getfield 65, 3) := by decide +kernel
theorem dYa_newState_4 : decode cYa_newState 4 = .ok (.sipush 199, 3) := by decide +kernel
theorem dYa_newState_7 : decode cYa_newState 7 = .ok (.invokestatic 253, 3) := by decide +kernel
theorem dYa_newState_10 : decode cYa_newState 10 = .ok (.istore_n 2, 1) := by decide +kernel
theorem dYa_newState_11 : decode cYa_newState 11 = .ok (.aload_n 0, 1) := by decide +kernel
theorem dYa_newState_12 : decode cYa_newState 12 = .ok (.getfield 19, 3) := by decide +kernel
theorem dYa_newState_15 : decode cYa_newState 15 = .ok (.iload_n 2, 1) := by decide +kernel
theorem dYa_newState_16 : decode cYa_newState 16 = .ok (.aaload, 1) := by decide +kernel
theorem dYa_newState_17 : decode cYa_newState 17 = .ok (.ifnonnull 17, 3) := by decide +kernel
theorem dYa_newState_20 : decode cYa_newState 20 = .ok (.aload_n 0, 1) := by decide +kernel
theorem dYa_newState_21 : decode cYa_newState 21 = .ok (.getfield 19, 3) := by decide +kernel
theorem dYa_newState_24 : decode cYa_newState 24 = .ok (.iload_n 2, 1) := by decide +kernel
theorem dYa_newState_25 : decode cYa_newState 25 = .ok (.new 17, 3) := by decide +kernel
theorem dYa_newState_28 : decode cYa_newState 28 = .ok (.dup, 1) := by decide +kernel
theorem dYa_newState_29 : decode cYa_newState 29 = .ok (.iload_n 2, 1) := by decide +kernel
theorem dYa_newState_30 : decode cYa_newState 30 = .ok (.invokespecial 256, 3) := by decide +kernel
theorem dYa_newState_33 : decode cYa_newState 33 = .ok (.aastore, 1) := by decide +kernel
theorem dYa_newState_34 : decode cYa_newState 34 = .ok (.aload_n 0, 1) := by decide +kernel
theorem dYa_newState_35 : decode cYa_newState 35 = .ok (.getfield 19, 3) := by decide +kernel
theorem dYa_newState_38 : decode cYa_newState 38 = .ok (.iload_n 2, 1) := by decide +kernel
theorem dYa_newState_39 : decode cYa_newState 39 = .ok (.aaload, 1) := by decide +kernel
theorem dYa_newState_40 : decode cYa_newState 40 = .ok (.astore_n 3, 1) := by decide +kernel
theorem dYa_newState_41 : decode cYa_newState 41 = .ok (.aload_n 3, 1) := by decide +kernel
theorem dYa_newState_42 : decode cYa_newState 42 = .ok (.aload_n 1, 1) := by decide +kernel
theorem dYa_newState_43 : decode cYa_newState 43 = .ok (.invokevirtual 258, 3) := by decide +kernel
theorem dYa_newState_46 : decode cYa_newState 46 = .ok (.aload_n 0, 1) := by decide +kernel
theorem dYa_newState_47 : decode cYa_newState 47 = .ok (.getfield 31, 3) := by decide +kernel
theorem dYa_newState_50 : decode cYa_newState 50 = .ok (.iconst 0, 1) := by decide +kernel
theorem dYa_newState_51 : decode cYa_newState 51 = .ok (.aload_n 3, 1) := by decide +kernel
theorem dYa_newState_52 : decode cYa_newState 52 = .ok (.getfield 191, 3) := by decide +kernel
theorem dYa_newState_55 : decode cYa_newState 55 = .ok (.iconst 0, 1) := by decide +kernel
theorem dYa_newState_56 : decode cYa_newState 56 = .ok (.iconst 3, 1) := by decide +kernel
theorem dYa_newState_57 : decode cYa_newState 57 = .ok (.invokestatic 193, 3) := by decide +kernel
theorem dYa_newState_60 : decode cYa_newState 60 = .ok (.aload_n 3, 1) := by decide +kernel
theorem dYa_newState_61 : decode cYa_newState 61 = .ok (.aload_n 0, 1) := by decide +kernel
theorem dYa_newState_62 : decode cYa_newState 62 = .ok (.invokevirtual 262, 3) := by decide +kernel
theorem dYa_newState_65 : decode cYa_newState 65 = .ok (.putfield 265, 3) := by decide +kernel
theorem dYa_newState_68 : decode cYa_newState 68 = .ok (.aload_n 0, 1) := by decide +kernel
theorem dYa_newState_69 : decode cYa_newState 69 = .ok (.iload_n 2, 1) := by decide +kernel
theorem dYa_newState_70 : decode cYa_newState 70 = .ok (.iconst 1, 1) := by decide +kernel
theorem dYa_newState_71 : decode cYa_newState 71 = .ok (.iadd, 1) := by decide +kernel
theorem dYa_newState_72 : decode cYa_newState 72 = .ok (.putfield 65, 3) := by decide +kernel
theorem dYa_newState_75 : decode cYa_newState 75 = .ok (.aload_n 1, 1) := by decide +kernel
theorem dYa_newState_76 : decode cYa_newState 76 = .ok (.ifnull 13, 3) := by decide +kernel
theorem dYa_newState_79 : decode cYa_newState 79 = .ok (.aload_n 1, 1) := by decide +kernel
theorem dYa_newState_80 : decode cYa_newState 80 = .ok (.dup, 1) := by decide +kernel
theorem dYa_newState_81 : decode cYa_newState 81 = .ok (.getfield 268, 3) := by decide +kernel
theorem dYa_newState_84 : decode cYa_newState 84 = .ok (.iconst 1, 1) := by decide +kernel
theorem dYa_newState_85 : decode cYa_newState 85 = .ok (.iadd, 1) := by decide +kernel
theorem dYa_newState_86 : decode cYa_newState 86 = .ok (.putfield 268, 3) := by decide +kernel
theorem dYa_newState_89 : decode cYa_newState 89 = .ok (.aload_n 3, 1) := by decide +kernel
theorem dYa_newState_90 : decode cYa_newState 90 = .ok (.areturn, 1) := by decide +kernel
theorem dYa_isLimited_0 : decode cYa_isLimited 0 = .ok (.iconst 0, 1) := by decide +kernel
theorem dYa_isLimited_1 : decode cYa_isLimited 1 = .ok (.istore_n 1, 1) := by decide +kernel
theorem dYa_isLimited_2 : decode cYa_isLimited 2 = .ok (.iload_n 1, 1) := by decide +kernel
theorem dYa_isLimited_3 : decode cYa_isLimited 3 = .ok (.aload_n 0, 1) := by decide +kernel
theorem dYa_isLimited_4 : decode cYa_isLimited 4 = .ok (.getfield 43, 3) := by decide +kernel
theorem dYa_isLimited_7 : decode cYa_isLimited 7 = .ok (.if_icmp .ge 34, 3) := by decide +kernel
theorem dYa_isLimited_10 : decode cYa_isLimited 10 = .ok (.aload_n 0, 1) := by decide +kernel
theorem dYa_isLimited_11 : decode cYa_isLimited 11 = .ok (.iload_n 1, 1) := by decide +kernel
theorem dYa_isLimited_12 : decode cYa_isLimited 12 = .ok (.aload_n 0, 1) := by decide +kernel
theorem dYa_isLimited_13 : decode cYa_isLimited 13 = .ok (.getfield 31, 3) := by decide +kernel
theorem dYa_isLimited_16 : decode cYa_isLimited 16 = .ok (.iload_n 1, 1) := by decide +kernel
theorem dYa_isLimited_17 : decode cYa_isLimited 17 = .ok (.iaload, 1) := by decide +kernel
theorem dYa_isLimited_18 : decode cYa_isLimited 18 = .ok (.invokevirtual 68, 3) := by decide +kernel
theorem dYa_isLimited_21 : decode cYa_isLimited 21 = .ok (.astore_n 2, 1) := by decide +kernel
theorem dYa_isLimited_22 : decode cYa_isLimited 22 = .ok (.aload_n 2, 1) := by decide +kernel
theorem dYa_isLimited_23 : decode cYa_isLimited 23 = .ok (.ifnull 12, 3) := by decide +kernel
theorem dYa_isLimited_26 : decode cYa_isLimited 26 = .ok (.aload_n 2, 1) := by decide +kernel
theorem dYa_isLimited_27 : decode cYa_isLimited 27 = .ok (.getfield 137, 3) := by decide +kernel
theorem dYa_isLimited_30 : decode cYa_isLimited 30 = .ok (.ifCond .le 5, 3) := by decide +kernel
theorem dYa_isLimited_33 : decode cYa_isLimited 33 = .ok (.iconst 1, 1) := by decide +kernel
theorem dYa_isLimited_34 : decode cYa_isLimited 34 = .ok (.ireturn, 1) := by decide +kernel
theorem dYa_isLimited_35 : decode cYa_isLimited 35 = .ok (.iinc 1 1, 3) := by decide +kernel
theorem dYa_isLimited_38 : decode cYa_isLimited 38 = .ok (.goto (-36), 3) := by decide +kernel
theorem dYa_isLimited_41 : decode cYa_isLimited 41 = .ok (.iconst 0, 1) := by decide +kernel
theorem dYa_isLimited_42 : decode cYa_isLimited 42 = .ok (.ireturn, 1) := by decide +kernel
theorem dYa_leastTotal_0 : decode cYa_leastTotal 0 = .ok (.aload_n 0, 1) := by decide +kernel
theorem dYa_leastTotal_1 : decode cYa_leastTotal 1 = .ok (.iconst 0, 1) := by decide +kernel
theorem dYa_leastTotal_2 : decode cYa_leastTotal 2 = .ok (.iconst 4, 1) := by decide +kernel
theorem dYa_leastTotal_3 : decode cYa_leastTotal 3 = .ok (.invokevirtual 271, 3) := by decide +kernel
theorem dYa_leastTotal_6 : decode cYa_leastTotal 6 = .ok (.istore_n 1, 1) := by decide +kernel
theorem dYa_leastTotal_7 : decode cYa_leastTotal 7 = .ok (.iload_n 1, 1) := by decide +kernel
theorem dYa_leastTotal_8 : decode cYa_leastTotal 8 = .ok (.iconst 1, 1) := by decide +kernel
theorem dYa_leastTotal_9 : decode cYa_leastTotal 9 = .ok (.ishr, 1) := by decide +kernel
theorem dYa_leastTotal_10 : decode cYa_leastTotal 10 = .ok (.ineg, 1) := by decide +kernel
theorem dYa_leastTotal_11 : decode cYa_leastTotal 11 = .ok (.istore_n 2, 1) := by decide +kernel
theorem dYa_leastTotal_12 : decode cYa_leastTotal 12 = .ok (.iload_n 1, 1) := by decide +kernel
theorem dYa_leastTotal_13 : decode cYa_leastTotal 13 = .ok (.iconst 1, 1) := by decide +kernel
theorem dYa_leastTotal_14 : decode cYa_leastTotal 14 = .ok (.iand, 1) := by decide +kernel
theorem dYa_leastTotal_15 : decode cYa_leastTotal 15 = .ok (.iconst 1, 1) := by decide +kernel
theorem dYa_leastTotal_16 : decode cYa_leastTotal 16 = .ok (.if_icmp .ne 9, 3) := by decide +kernel
theorem dYa_leastTotal_19 : decode cYa_leastTotal 19 = .ok (.iconst 2, 1) := by decide +kernel
theorem dYa_leastTotal_20 : decode cYa_leastTotal 20 = .ok (.iload_n 2, 1) := by decide +kernel
theorem dYa_leastTotal_21 : decode cYa_leastTotal 21 = .ok (.imul, 1) := by decide +kernel
theorem dYa_leastTotal_22 : decode cYa_leastTotal 22 = .ok (.goto 8, 3) := by decide +kernel
theorem dYa_leastTotal_25 : decode cYa_leastTotal 25 = .ok (.iconst 2, 1) := by decide +kernel
theorem dYa_leastTotal_26 : decode cYa_leastTotal 26 = .ok (.iload_n 2, 1) := by decide +kernel
theorem dYa_leastTotal_27 : decode cYa_leastTotal 27 = .ok (.imul, 1) := by decide +kernel
theorem dYa_leastTotal_28 : decode cYa_leastTotal 28 = .ok (.iconst 1, 1) := by decide +kernel
theorem dYa_leastTotal_29 : decode cYa_leastTotal 29 = .ok (.iadd, 1) := by decide +kernel
theorem dYa_leastTotal_30 : decode cYa_leastTotal 30 = .ok (.ireturn, 1) := by decide +kernel
theorem dZo_init_0 : decode cZo_init 0 = .ok (.aload_n 0, 1) := by decide +kernel
theorem dZo_init_1 : decode cZo_init 1 = .ok (.invokespecial 3, 3) := by decide +kernel
theorem dZo_init_4 : decode cZo_init 4 = .ok (.aload_n 0, 1) := by decide +kernel
theorem dZo_init_5 : decode cZo_init 5 = .ok (.iload_n 1, 1) := by decide +kernel
theorem dZo_init_6 : decode cZo_init 6 = .ok (.ifCond .eq 7, 3) := by decide +kernel
theorem dZo_init_9 : decode cZo_init 9 = .ok (.iconst 5, 1) := by decide +kernel
theorem dZo_init_10 : decode cZo_init 10 = .ok (.goto 4, 3) := by decide +kernel
theorem dZo_init_13 : decode cZo_init 13 = .ok (.iconst 4, 1) := by decide +kernel
theorem dZo_init_14 : decode cZo_init 14 = .ok (.putfield 9, 3) := by decide +kernel
theorem dZo_init_17 : decode cZo_init 17 = .ok (.aload_n 0, 1) := by decide +kernel
theorem dZo_init_18 : decode cZo_init 18 = .ok (.iload_n 1, 1) := by decide +kernel
theorem dZo_init_19 : decode cZo_init 19 = .ok (.ifCond .eq 8, 3) := by decide +kernel
theorem dZo_init_22 : decode cZo_init 22 = .ok (.bipush 25, 2) := by decide +kernel
theorem dZo_init_24 : decode cZo_init 24 = .ok (.goto 5, 3) := by decide +kernel
theorem dZo_init_27 : decode cZo_init 27 = .ok (.bipush 16, 2) := by decide +kernel
theorem dZo_init_29 : decode cZo_init 29 = .ok (.newarray .int, 2) := by decide +kernel
theorem dZo_init_31 : decode cZo_init 31 = .ok (.putfield 15, 3) := by decide +kernel
theorem dZo_init_34 : decode cZo_init 34 = .ok (.aload_n 0, 1) := by decide +kernel
theorem dZo_init_35 : decode cZo_init 35 = .ok (.getfield 15, 3) := by decide +kernel
theorem dZo_init_38 : decode cZo_init 38 = .ok (.iconst 1, 1) := by decide +kernel
theorem dZo_init_39 : decode cZo_init 39 = .ok (.invokestatic 19, 3) := by decide +kernel
theorem dZo_init_42 : decode cZo_init 42 = .ok (.return_, 1) := by decide +kernel
