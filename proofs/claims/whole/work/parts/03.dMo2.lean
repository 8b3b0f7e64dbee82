/-! decode rows -/
theorem dMo_lay_0 : decode cMo_lay 0 = .ok (.aload_n 0, 1) := by decide +kernel
theorem dMo_lay_1 : decode cMo_lay 1 = .ok (.aload_n 0, 1) := by decide +kernel
theorem dMo_lay_2 : decode cMo_lay 2 = .ok (.getfield 167, 3) := by decide +kernel
theorem dMo_lay_5 : decode cMo_lay 5 = .ok (.putfield 284, 3) := by decide +kernel
theorem dMo_lay_8 : decode cMo_lay 8 = .ok (.iconst 0, 1) := by decide +kernel
theorem dMo_lay_9 : decode cMo_lay 9 = .ok (.istore_n 1, 1) := by decide +kernel
theorem dMo_lay_10 : decode cMo_lay 10 = .ok (.iload_n 1, 1) := by decide +kernel
theorem dMo_lay_11 : decode cMo_lay 11 = .ok (.bipush 25, 2) := by decide +kernel
theorem dMo_lay_13 : decode cMo_lay 13 = .ok (.if_icmp .ge 21, 3) := by decide +kernel
theorem dMo_lay_16 : decode cMo_lay 16 = .ok (.aload_n 0, 1) := by decide +kernel
theorem dMo_lay_17 : decode cMo_lay 17 = .ok (.getfield 95, 3) := by decide +kernel
theorem dMo_lay_20 : decode cMo_lay 20 = .ok (.iload_n 1, 1) := by decide +kernel
theorem dMo_lay_21 : decode cMo_lay 21 = .ok (.aload_n 0, 1) := by decide +kernel
theorem dMo_lay_22 : decode cMo_lay 22 = .ok (.getfield 49, 3) := by decide +kernel
theorem dMo_lay_25 : decode cMo_lay 25 = .ok (.iload_n 1, 1) := by decide +kernel
theorem dMo_lay_26 : decode cMo_lay 26 = .ok (.iaload, 1) := by decide +kernel
theorem dMo_lay_27 : decode cMo_lay 27 = .ok (.iastore, 1) := by decide +kernel
theorem dMo_lay_28 : decode cMo_lay 28 = .ok (.iinc 1 1, 3) := by decide +kernel
theorem dMo_lay_31 : decode cMo_lay 31 = .ok (.goto (-21), 3) := by decide +kernel
theorem dMo_lay_34 : decode cMo_lay 34 = .ok (.aload_n 0, 1) := by decide +kernel
theorem dMo_lay_35 : decode cMo_lay 35 = .ok (.getfield 167, 3) := by decide +kernel
theorem dMo_lay_38 : decode cMo_lay 38 = .ok (.ifCond .eq 7, 3) := by decide +kernel
theorem dMo_lay_41 : decode cMo_lay 41 = .ok (.iconst 1, 1) := by decide +kernel
theorem dMo_lay_42 : decode cMo_lay 42 = .ok (.goto 4, 3) := by decide +kernel
theorem dMo_lay_45 : decode cMo_lay 45 = .ok (.iconst 0, 1) := by decide +kernel
theorem dMo_lay_46 : decode cMo_lay 46 = .ok (.ireturn, 1) := by decide +kernel
theorem dMo_hand_0 : decode cMo_hand 0 = .ok (.aload_n 0, 1) := by decide +kernel
theorem dMo_hand_1 : decode cMo_hand 1 = .ok (.iconst 0, 1) := by decide +kernel
theorem dMo_hand_2 : decode cMo_hand 2 = .ok (.putfield 124, 3) := by decide +kernel
theorem dMo_hand_5 : decode cMo_hand 5 = .ok (.iload_n 1, 1) := by decide +kernel
theorem dMo_hand_6 : decode cMo_hand 6 = .ok (.i2l, 1) := by decide +kernel
theorem dMo_hand_7 : decode cMo_hand 7 = .ok (.lconst 0, 1) := by decide +kernel
theorem dMo_hand_8 : decode cMo_hand 8 = .ok (.ldc2_w 139, 3) := by decide +kernel
theorem dMo_hand_11 : decode cMo_hand 11 = .ok (.invokestatic 141, 3) := by decide +kernel
theorem dMo_hand_14 : decode cMo_hand 14 = .ok (.ifCond .eq 16, 3) := by decide +kernel
theorem dMo_hand_17 : decode cMo_hand 17 = .ok (.iload_n 1, 1) := by decide +kernel
theorem dMo_hand_18 : decode cMo_hand 18 = .ok (.iconst 2, 1) := by decide +kernel
theorem dMo_hand_19 : decode cMo_hand 19 = .ok (.if_icmp .ne 13, 3) := by decide +kernel
theorem dMo_hand_22 : decode cMo_hand 22 = .ok (.aload_n 0, 1) := by decide +kernel
theorem dMo_hand_23 : decode cMo_hand 23 = .ok (.iload_n 2, 1) := by decide +kernel
theorem dMo_hand_24 : decode cMo_hand 24 = .ok (.invokevirtual 275, 3) := by decide +kernel
theorem dMo_hand_27 : decode cMo_hand 27 = .ok (.ifCond .ne 5, 3) := by decide +kernel
theorem dMo_hand_30 : decode cMo_hand 30 = .ok (.iconst (-1), 1) := by decide +kernel
theorem dMo_hand_31 : decode cMo_hand 31 = .ok (.ireturn, 1) := by decide +kernel
theorem dMo_hand_32 : decode cMo_hand 32 = .ok (.iload_n 1, 1) := by decide +kernel
theorem dMo_hand_33 : decode cMo_hand 33 = .ok (.ifCond .ne 11, 3) := by decide +kernel
theorem dMo_hand_36 : decode cMo_hand 36 = .ok (.aload_n 0, 1) := by decide +kernel
theorem dMo_hand_37 : decode cMo_hand 37 = .ok (.iconst 4, 1) := by decide +kernel
theorem dMo_hand_38 : decode cMo_hand 38 = .ok (.invokevirtual 120, 3) := by decide +kernel
theorem dMo_hand_41 : decode cMo_hand 41 = .ok (.goto 35, 3) := by decide +kernel
theorem dMo_hand_44 : decode cMo_hand 44 = .ok (.iload_n 1, 1) := by decide +kernel
theorem dMo_hand_45 : decode cMo_hand 45 = .ok (.iconst 2, 1) := by decide +kernel
theorem dMo_hand_46 : decode cMo_hand 46 = .ok (.if_icmp .ne 11, 3) := by decide +kernel
theorem dMo_hand_49 : decode cMo_hand 49 = .ok (.aload_n 0, 1) := by decide +kernel
theorem dMo_hand_50 : decode cMo_hand 50 = .ok (.iload_n 2, 1) := by decide +kernel
theorem dMo_hand_51 : decode cMo_hand 51 = .ok (.invokevirtual 212, 3) := by decide +kernel
theorem dMo_hand_54 : decode cMo_hand 54 = .ok (.goto 22, 3) := by decide +kernel
theorem dMo_hand_57 : decode cMo_hand 57 = .ok (.aload_n 0, 1) := by decide +kernel
theorem dMo_hand_58 : decode cMo_hand 58 = .ok (.iconst 4, 1) := by decide +kernel
theorem dMo_hand_59 : decode cMo_hand 59 = .ok (.invokevirtual 257, 3) := by decide +kernel
theorem dMo_hand_62 : decode cMo_hand 62 = .ok (.aload_n 0, 1) := by decide +kernel
theorem dMo_hand_63 : decode cMo_hand 63 = .ok (.iload_n 1, 1) := by decide +kernel
theorem dMo_hand_64 : decode cMo_hand 64 = .ok (.iconst 3, 1) := by decide +kernel
theorem dMo_hand_65 : decode cMo_hand 65 = .ok (.if_icmp .ne 7, 3) := by decide +kernel
theorem dMo_hand_68 : decode cMo_hand 68 = .ok (.iconst 1, 1) := by decide +kernel
theorem dMo_hand_69 : decode cMo_hand 69 = .ok (.goto 4, 3) := by decide +kernel
theorem dMo_hand_72 : decode cMo_hand 72 = .ok (.iconst 0, 1) := by decide +kernel
theorem dMo_hand_73 : decode cMo_hand 73 = .ok (.putfield 167, 3) := by decide +kernel
theorem dMo_hand_76 : decode cMo_hand 76 = .ok (.aload_n 0, 1) := by decide +kernel
theorem dMo_hand_77 : decode cMo_hand 77 = .ok (.invokevirtual 287, 3) := by decide +kernel
theorem dMo_hand_80 : decode cMo_hand 80 = .ok (.istore_n 3, 1) := by decide +kernel
theorem dMo_hand_81 : decode cMo_hand 81 = .ok (.iconst 0, 1) := by decide +kernel
theorem dMo_hand_82 : decode cMo_hand 82 = .ok (.ireturn, 1) := by decide +kernel
theorem dMo_tighten_0 : decode cMo_tighten 0 = .ok (.aload_n 0, 1) := by decide +kernel
theorem dMo_tighten_1 : decode cMo_tighten 1 = .ok (.iconst 0, 1) := by decide +kernel
theorem dMo_tighten_2 : decode cMo_tighten 2 = .ok (.putfield 124, 3) := by decide +kernel
theorem dMo_tighten_5 : decode cMo_tighten 5 = .ok (.iload_n 1, 1) := by decide +kernel
theorem dMo_tighten_6 : decode cMo_tighten 6 = .ok (.i2l, 1) := by decide +kernel
theorem dMo_tighten_7 : decode cMo_tighten 7 = .ok (.lconst 0, 1) := by decide +kernel
theorem dMo_tighten_8 : decode cMo_tighten 8 = .ok (.ldc2_w 139, 3) := by decide +kernel
theorem dMo_tighten_11 : decode cMo_tighten 11 = .ok (.invokestatic 141, 3) := by decide +kernel
theorem dMo_tighten_14 : decode cMo_tighten 14 = .ok (.ifCond .eq 34, 3) := by decide +kernel
theorem dMo_tighten_17 : decode cMo_tighten 17 = .ok (.iload_n 2, 1) := by decide +kernel
theorem dMo_tighten_18 : decode cMo_tighten 18 = .ok (.i2l, 1) := by decide +kernel
theorem dMo_tighten_19 : decode cMo_tighten 19 = .ok (.lconst 0, 1) := by decide +kernel
theorem dMo_tighten_20 : decode cMo_tighten 20 = .ok (.ldc2_w 139, 3) := by decide +kernel
theorem dMo_tighten_23 : decode cMo_tighten 23 = .ok (.invokestatic 141, 3) := by decide +kernel
theorem dMo_tighten_26 : decode cMo_tighten 26 = .ok (.ifCond .eq 22, 3) := by decide +kernel
theorem dMo_tighten_29 : decode cMo_tighten 29 = .ok (.iload_n 1, 1) := by decide +kernel
theorem dMo_tighten_30 : decode cMo_tighten 30 = .ok (.iload_n 2, 1) := by decide +kernel
theorem dMo_tighten_31 : decode cMo_tighten 31 = .ok (.if_icmp .eq 17, 3) := by decide +kernel
theorem dMo_tighten_34 : decode cMo_tighten 34 = .ok (.iload_n 3, 1) := by decide +kernel
theorem dMo_tighten_35 : decode cMo_tighten 35 = .ok (.i2l, 1) := by decide +kernel
theorem dMo_tighten_36 : decode cMo_tighten 36 = .ok (.ldc2_w 291, 3) := by decide +kernel
theorem dMo_tighten_39 : decode cMo_tighten 39 = .ok (.ldc2_w 293, 3) := by decide +kernel
theorem dMo_tighten_42 : decode cMo_tighten 42 = .ok (.invokestatic 141, 3) := by decide +kernel
theorem dMo_tighten_45 : decode cMo_tighten 45 = .ok (.ifCond .ne 5, 3) := by decide +kernel
theorem dMo_tighten_48 : decode cMo_tighten 48 = .ok (.iconst (-1), 1) := by decide +kernel
theorem dMo_tighten_49 : decode cMo_tighten 49 = .ok (.ireturn, 1) := by decide +kernel
theorem dMo_tighten_50 : decode cMo_tighten 50 = .ok (.aload_n 0, 1) := by decide +kernel
theorem dMo_tighten_51 : decode cMo_tighten 51 = .ok (.invokevirtual 295, 3) := by decide +kernel
theorem dMo_tighten_54 : decode cMo_tighten 54 = .ok (.aload_n 0, 1) := by decide +kernel
theorem dMo_tighten_55 : decode cMo_tighten 55 = .ok (.iload_n 1, 1) := by decide +kernel
theorem dMo_tighten_56 : decode cMo_tighten 56 = .ok (.iload_n 2, 1) := by decide +kernel
theorem dMo_tighten_57 : decode cMo_tighten 57 = .ok (.iload_n 3, 1) := by decide +kernel
theorem dMo_tighten_58 : decode cMo_tighten 58 = .ok (.iload 4, 2) := by decide +kernel
theorem dMo_tighten_60 : decode cMo_tighten 60 = .ok (.invokestatic 147, 3) := by decide +kernel
theorem dMo_tighten_63 : decode cMo_tighten 63 = .ok (.invokevirtual 179, 3) := by decide +kernel
theorem dMo_tighten_66 : decode cMo_tighten 66 = .ok (.aload_n 0, 1) := by decide +kernel
theorem dMo_tighten_67 : decode cMo_tighten 67 = .ok (.invokevirtual 287, 3) := by decide +kernel
theorem dMo_tighten_70 : decode cMo_tighten 70 = .ok (.ireturn, 1) := by decide +kernel
theorem dMo_pass_0 : decode cMo_pass 0 = .ok (.aload_n 0, 1) := by decide +kernel
theorem dMo_pass_1 : decode cMo_pass 1 = .ok (.iconst 0, 1) := by decide +kernel
theorem dMo_pass_2 : decode cMo_pass 2 = .ok (.putfield 124, 3) := by decide +kernel
theorem dMo_pass_5 : decode cMo_pass 5 = .ok (.aload_n 0, 1) := by decide +kernel
theorem dMo_pass_6 : decode cMo_pass 6 = .ok (.invokevirtual 295, 3) := by decide +kernel
theorem dMo_pass_9 : decode cMo_pass 9 = .ok (.aload_n 0, 1) := by decide +kernel
theorem dMo_pass_10 : decode cMo_pass 10 = .ok (.invokevirtual 189, 3) := by decide +kernel
theorem dMo_pass_13 : decode cMo_pass 13 = .ok (.aload_n 0, 1) := by decide +kernel
theorem dMo_pass_14 : decode cMo_pass 14 = .ok (.invokevirtual 287, 3) := by decide +kernel
theorem dMo_pass_17 : decode cMo_pass 17 = .ok (.ireturn, 1) := by decide +kernel
theorem dMo_set_0 : decode cMo_set 0 = .ok (.aload_n 0, 1) := by decide +kernel
theorem dMo_set_1 : decode cMo_set 1 = .ok (.iconst 0, 1) := by decide +kernel
theorem dMo_set_2 : decode cMo_set 2 = .ok (.putfield 124, 3) := by decide +kernel
theorem dMo_set_5 : decode cMo_set 5 = .ok (.iload_n 1, 1) := by decide +kernel
theorem dMo_set_6 : decode cMo_set 6 = .ok (.i2l, 1) := by decide +kernel
theorem dMo_set_7 : decode cMo_set 7 = .ok (.lconst 0, 1) := by decide +kernel
theorem dMo_set_8 : decode cMo_set 8 = .ok (.ldc2_w 155, 3) := by decide +kernel
theorem dMo_set_11 : decode cMo_set 11 = .ok (.invokestatic 141, 3) := by decide +kernel
theorem dMo_set_14 : decode cMo_set 14 = .ok (.ifCond .ne 5, 3) := by decide +kernel
theorem dMo_set_17 : decode cMo_set 17 = .ok (.iconst (-1), 1) := by decide +kernel
theorem dMo_set_18 : decode cMo_set 18 = .ok (.ireturn, 1) := by decide +kernel
theorem dMo_set_19 : decode cMo_set 19 = .ok (.aload_n 0, 1) := by decide +kernel
theorem dMo_set_20 : decode cMo_set 20 = .ok (.invokevirtual 295, 3) := by decide +kernel
theorem dMo_set_23 : decode cMo_set 23 = .ok (.aload_n 0, 1) := by decide +kernel
theorem dMo_set_24 : decode cMo_set 24 = .ok (.iload_n 1, 1) := by decide +kernel
theorem dMo_set_25 : decode cMo_set 25 = .ok (.invokevirtual 205, 3) := by decide +kernel
theorem dMo_set_28 : decode cMo_set 28 = .ok (.aload_n 0, 1) := by decide +kernel
theorem dMo_set_29 : decode cMo_set 29 = .ok (.invokevirtual 287, 3) := by decide +kernel
theorem dMo_set_32 : decode cMo_set 32 = .ok (.ireturn, 1) := by decide +kernel
theorem dMo_letGo_0 : decode cMo_letGo 0 = .ok (.aload_n 0, 1) := by decide +kernel
theorem dMo_letGo_1 : decode cMo_letGo 1 = .ok (.iconst 0, 1) := by decide +kernel
theorem dMo_letGo_2 : decode cMo_letGo 2 = .ok (.putfield 124, 3) := by decide +kernel
theorem dMo_letGo_5 : decode cMo_letGo 5 = .ok (.iload_n 1, 1) := by decide +kernel
theorem dMo_letGo_6 : decode cMo_letGo 6 = .ok (.i2l, 1) := by decide +kernel
theorem dMo_letGo_7 : decode cMo_letGo 7 = .ok (.lconst 0, 1) := by decide +kernel
theorem dMo_letGo_8 : decode cMo_letGo 8 = .ok (.ldc2_w 298, 3) := by decide +kernel
theorem dMo_letGo_11 : decode cMo_letGo 11 = .ok (.invokestatic 141, 3) := by decide +kernel
theorem dMo_letGo_14 : decode cMo_letGo 14 = .ok (.ifCond .eq 27, 3) := by decide +kernel
theorem dMo_letGo_17 : decode cMo_letGo 17 = .ok (.iload_n 2, 1) := by decide +kernel
theorem dMo_letGo_18 : decode cMo_letGo 18 = .ok (.i2l, 1) := by decide +kernel
theorem dMo_letGo_19 : decode cMo_letGo 19 = .ok (.lconst 0, 1) := by decide +kernel
theorem dMo_letGo_20 : decode cMo_letGo 20 = .ok (.ldc2_w 298, 3) := by decide +kernel
theorem dMo_letGo_23 : decode cMo_letGo 23 = .ok (.invokestatic 141, 3) := by decide +kernel
theorem dMo_letGo_26 : decode cMo_letGo 26 = .ok (.ifCond .eq 15, 3) := by decide +kernel
theorem dMo_letGo_29 : decode cMo_letGo 29 = .ok (.iload_n 3, 1) := by decide +kernel
theorem dMo_letGo_30 : decode cMo_letGo 30 = .ok (.i2l, 1) := by decide +kernel
theorem dMo_letGo_31 : decode cMo_letGo 31 = .ok (.lconst 0, 1) := by decide +kernel
theorem dMo_letGo_32 : decode cMo_letGo 32 = .ok (.ldc2_w 298, 3) := by decide +kernel
theorem dMo_letGo_35 : decode cMo_letGo 35 = .ok (.invokestatic 141, 3) := by decide +kernel
theorem dMo_letGo_38 : decode cMo_letGo 38 = .ok (.ifCond .ne 5, 3) := by decide +kernel
theorem dMo_letGo_41 : decode cMo_letGo 41 = .ok (.iconst (-1), 1) := by decide +kernel
theorem dMo_letGo_42 : decode cMo_letGo 42 = .ok (.ireturn, 1) := by decide +kernel
theorem dMo_letGo_43 : decode cMo_letGo 43 = .ok (.aload_n 0, 1) := by decide +kernel
theorem dMo_letGo_44 : decode cMo_letGo 44 = .ok (.getfield 55, 3) := by decide +kernel
theorem dMo_letGo_47 : decode cMo_letGo 47 = .ok (.iconst 0, 1) := by decide +kernel
theorem dMo_letGo_48 : decode cMo_letGo 48 = .ok (.iconst 0, 1) := by decide +kernel
theorem dMo_letGo_49 : decode cMo_letGo 49 = .ok (.iastore, 1) := by decide +kernel
theorem dMo_letGo_50 : decode cMo_letGo 50 = .ok (.aload_n 0, 1) := by decide +kernel
theorem dMo_letGo_51 : decode cMo_letGo 51 = .ok (.getfield 55, 3) := by decide +kernel
theorem dMo_letGo_54 : decode cMo_letGo 54 = .ok (.iconst 1, 1) := by decide +kernel
theorem dMo_letGo_55 : decode cMo_letGo 55 = .ok (.iload_n 1, 1) := by decide +kernel
theorem dMo_letGo_56 : decode cMo_letGo 56 = .ok (.iastore, 1) := by decide +kernel
theorem dMo_letGo_57 : decode cMo_letGo 57 = .ok (.aload_n 0, 1) := by decide +kernel
theorem dMo_letGo_58 : decode cMo_letGo 58 = .ok (.getfield 55, 3) := by decide +kernel
theorem dMo_letGo_61 : decode cMo_letGo 61 = .ok (.iconst 2, 1) := by decide +kernel
theorem dMo_letGo_62 : decode cMo_letGo 62 = .ok (.iload_n 2, 1) := by decide +kernel
theorem dMo_letGo_63 : decode cMo_letGo 63 = .ok (.iastore, 1) := by decide +kernel
theorem dMo_letGo_64 : decode cMo_letGo 64 = .ok (.aload_n 0, 1) := by decide +kernel
theorem dMo_letGo_65 : decode cMo_letGo 65 = .ok (.getfield 55, 3) := by decide +kernel
theorem dMo_letGo_68 : decode cMo_letGo 68 = .ok (.iconst 3, 1) := by decide +kernel
theorem dMo_letGo_69 : decode cMo_letGo 69 = .ok (.iload_n 3, 1) := by decide +kernel
theorem dMo_letGo_70 : decode cMo_letGo 70 = .ok (.iastore, 1) := by decide +kernel
theorem dMo_letGo_71 : decode cMo_letGo 71 = .ok (.aload_n 0, 1) := by decide +kernel
theorem dMo_letGo_72 : decode cMo_letGo 72 = .ok (.invokevirtual 295, 3) := by decide +kernel
theorem dMo_letGo_75 : decode cMo_letGo 75 = .ok (.aload_n 0, 1) := by decide +kernel
theorem dMo_letGo_76 : decode cMo_letGo 76 = .ok (.invokevirtual 219, 3) := by decide +kernel
theorem dMo_letGo_79 : decode cMo_letGo 79 = .ok (.aload_n 0, 1) := by decide +kernel
theorem dMo_letGo_80 : decode cMo_letGo 80 = .ok (.invokevirtual 287, 3) := by decide +kernel
theorem dMo_letGo_83 : decode cMo_letGo 83 = .ok (.ireturn, 1) := by decide +kernel
theorem dMo_meet_0 : decode cMo_meet 0 = .ok (.aload_n 0, 1) := by decide +kernel
theorem dMo_meet_1 : decode cMo_meet 1 = .ok (.iconst 0, 1) := by decide +kernel
theorem dMo_meet_2 : decode cMo_meet 2 = .ok (.putfield 124, 3) := by decide +kernel
theorem dMo_meet_5 : decode cMo_meet 5 = .ok (.aload_n 0, 1) := by decide +kernel
theorem dMo_meet_6 : decode cMo_meet 6 = .ok (.iload_n 1, 1) := by decide +kernel
theorem dMo_meet_7 : decode cMo_meet 7 = .ok (.invokevirtual 275, 3) := by decide +kernel
theorem dMo_meet_10 : decode cMo_meet 10 = .ok (.ifCond .ne 5, 3) := by decide +kernel
theorem dMo_meet_13 : decode cMo_meet 13 = .ok (.iconst (-1), 1) := by decide +kernel
theorem dMo_meet_14 : decode cMo_meet 14 = .ok (.ireturn, 1) := by decide +kernel
theorem dMo_meet_15 : decode cMo_meet 15 = .ok (.aload_n 0, 1) := by decide +kernel
theorem dMo_meet_16 : decode cMo_meet 16 = .ok (.invokevirtual 295, 3) := by decide +kernel
theorem dMo_meet_19 : decode cMo_meet 19 = .ok (.iconst 0, 1) := by decide +kernel
theorem dMo_meet_20 : decode cMo_meet 20 = .ok (.istore_n 2, 1) := by decide +kernel
theorem dMo_meet_21 : decode cMo_meet 21 = .ok (.iload_n 2, 1) := by decide +kernel
theorem dMo_meet_22 : decode cMo_meet 22 = .ok (.bipush 20, 2) := by decide +kernel
theorem dMo_meet_24 : decode cMo_meet 24 = .ok (.if_icmp .ge 37, 3) := by decide +kernel
theorem dMo_meet_27 : decode cMo_meet 27 = .ok (.iload_n 2, 1) := by decide +kernel
theorem dMo_meet_28 : decode cMo_meet 28 = .ok (.iconst 5, 1) := by decide +kernel
theorem dMo_meet_29 : decode cMo_meet 29 = .ok (.irem, 1) := by decide +kernel
theorem dMo_meet_30 : decode cMo_meet 30 = .ok (.iconst 4, 1) := by decide +kernel
theorem dMo_meet_31 : decode cMo_meet 31 = .ok (.if_icmp .ge 24, 3) := by decide +kernel
theorem dMo_meet_34 : decode cMo_meet 34 = .ok (.aload_n 0, 1) := by decide +kernel
theorem dMo_meet_35 : decode cMo_meet 35 = .ok (.iload_n 2, 1) := by decide +kernel
theorem dMo_meet_36 : decode cMo_meet 36 = .ok (.iconst 5, 1) := by decide +kernel
theorem dMo_meet_37 : decode cMo_meet 37 = .ok (.idiv, 1) := by decide +kernel
theorem dMo_meet_38 : decode cMo_meet 38 = .ok (.iload_n 2, 1) := by decide +kernel
theorem dMo_meet_39 : decode cMo_meet 39 = .ok (.iconst 5, 1) := by decide +kernel
theorem dMo_meet_40 : decode cMo_meet 40 = .ok (.irem, 1) := by decide +kernel
theorem dMo_meet_41 : decode cMo_meet 41 = .ok (.aload_n 0, 1) := by decide +kernel
theorem dMo_meet_42 : decode cMo_meet 42 = .ok (.getfield 61, 3) := by decide +kernel
theorem dMo_meet_45 : decode cMo_meet 45 = .ok (.bipush 25, 2) := by decide +kernel
theorem dMo_meet_47 : decode cMo_meet 47 = .ok (.iload_n 1, 1) := by decide +kernel
theorem dMo_meet_48 : decode cMo_meet 48 = .ok (.imul, 1) := by decide +kernel
theorem dMo_meet_49 : decode cMo_meet 49 = .ok (.iload_n 2, 1) := by decide +kernel
theorem dMo_meet_50 : decode cMo_meet 50 = .ok (.iadd, 1) := by decide +kernel
theorem dMo_meet_51 : decode cMo_meet 51 = .ok (.iaload, 1) := by decide +kernel
theorem dMo_meet_52 : decode cMo_meet 52 = .ok (.invokevirtual 179, 3) := by decide +kernel
theorem dMo_meet_55 : decode cMo_meet 55 = .ok (.iinc 2 1, 3) := by decide +kernel
theorem dMo_meet_58 : decode cMo_meet 58 = .ok (.goto (-37), 3) := by decide +kernel
theorem dMo_meet_61 : decode cMo_meet 61 = .ok (.aload_n 0, 1) := by decide +kernel
theorem dMo_meet_62 : decode cMo_meet 62 = .ok (.invokevirtual 287, 3) := by decide +kernel
theorem dMo_meet_65 : decode cMo_meet 65 = .ok (.ireturn, 1) := by decide +kernel
theorem dMo_within_0 : decode cMo_within 0 = .ok (.aload_n 0, 1) := by decide +kernel
theorem dMo_within_1 : decode cMo_within 1 = .ok (.iconst 0, 1) := by decide +kernel
theorem dMo_within_2 : decode cMo_within 2 = .ok (.putfield 124, 3) := by decide +kernel
theorem dMo_within_5 : decode cMo_within 5 = .ok (.aload_n 0, 1) := by decide +kernel
theorem dMo_within_6 : decode cMo_within 6 = .ok (.iload_n 1, 1) := by decide +kernel
theorem dMo_within_7 : decode cMo_within 7 = .ok (.invokevirtual 275, 3) := by decide +kernel
theorem dMo_within_10 : decode cMo_within 10 = .ok (.ifCond .ne 5, 3) := by decide +kernel
theorem dMo_within_13 : decode cMo_within 13 = .ok (.iconst (-1), 1) := by decide +kernel
theorem dMo_within_14 : decode cMo_within 14 = .ok (.ireturn, 1) := by decide +kernel
theorem dMo_within_15 : decode cMo_within 15 = .ok (.aload_n 0, 1) := by decide +kernel
theorem dMo_within_16 : decode cMo_within 16 = .ok (.getfield 284, 3) := by decide +kernel
theorem dMo_within_19 : decode cMo_within 19 = .ok (.ifCond .eq 5, 3) := by decide +kernel
theorem dMo_within_22 : decode cMo_within 22 = .ok (.iconst 1, 1) := by decide +kernel
theorem dMo_within_23 : decode cMo_within 23 = .ok (.ireturn, 1) := by decide +kernel
theorem dMo_within_24 : decode cMo_within 24 = .ok (.iconst 1, 1) := by decide +kernel
theorem dMo_within_25 : decode cMo_within 25 = .ok (.istore_n 2, 1) := by decide +kernel
theorem dMo_within_26 : decode cMo_within 26 = .ok (.iconst 1, 1) := by decide +kernel
theorem dMo_within_27 : decode cMo_within 27 = .ok (.istore_n 3, 1) := by decide +kernel
theorem dMo_within_28 : decode cMo_within 28 = .ok (.iconst 0, 1) := by decide +kernel
theorem dMo_within_29 : decode cMo_within 29 = .ok (.istore 4, 2) := by decide +kernel
theorem dMo_within_31 : decode cMo_within 31 = .ok (.iload 4, 2) := by decide +kernel
theorem dMo_within_33 : decode cMo_within 33 = .ok (.bipush 20, 2) := by decide +kernel
theorem dMo_within_35 : decode cMo_within 35 = .ok (.if_icmp .ge 89, 3) := by decide +kernel
theorem dMo_within_38 : decode cMo_within 38 = .ok (.iload_n 2, 1) := by decide +kernel
theorem dMo_within_39 : decode cMo_within 39 = .ok (.ifCond .eq 37, 3) := by decide +kernel
theorem dMo_within_42 : decode cMo_within 42 = .ok (.iload 4, 2) := by decide +kernel
theorem dMo_within_44 : decode cMo_within 44 = .ok (.iconst 5, 1) := by decide +kernel
theorem dMo_within_45 : decode cMo_within 45 = .ok (.irem, 1) := by decide +kernel
theorem dMo_within_46 : decode cMo_within 46 = .ok (.iconst 4, 1) := by decide +kernel
theorem dMo_within_47 : decode cMo_within 47 = .ok (.if_icmp .eq 25, 3) := by decide +kernel
theorem dMo_within_50 : decode cMo_within 50 = .ok (.aload_n 0, 1) := by decide +kernel
theorem dMo_within_51 : decode cMo_within 51 = .ok (.getfield 95, 3) := by decide +kernel
theorem dMo_within_54 : decode cMo_within 54 = .ok (.iload 4, 2) := by decide +kernel
theorem dMo_within_56 : decode cMo_within 56 = .ok (.iaload, 1) := by decide +kernel
theorem dMo_within_57 : decode cMo_within 57 = .ok (.aload_n 0, 1) := by decide +kernel
theorem dMo_within_58 : decode cMo_within 58 = .ok (.getfield 61, 3) := by decide +kernel
theorem dMo_within_61 : decode cMo_within 61 = .ok (.bipush 25, 2) := by decide +kernel
theorem dMo_within_63 : decode cMo_within 63 = .ok (.iload_n 1, 1) := by decide +kernel
theorem dMo_within_64 : decode cMo_within 64 = .ok (.imul, 1) := by decide +kernel
theorem dMo_within_65 : decode cMo_within 65 = .ok (.iload 4, 2) := by decide +kernel
theorem dMo_within_67 : decode cMo_within 67 = .ok (.iadd, 1) := by decide +kernel
theorem dMo_within_68 : decode cMo_within 68 = .ok (.iaload, 1) := by decide +kernel
theorem dMo_within_69 : decode cMo_within 69 = .ok (.if_icmp .gt 7, 3) := by decide +kernel
theorem dMo_within_72 : decode cMo_within 72 = .ok (.iconst 1, 1) := by decide +kernel
theorem dMo_within_73 : decode cMo_within 73 = .ok (.goto 4, 3) := by decide +kernel
theorem dMo_within_76 : decode cMo_within 76 = .ok (.iconst 0, 1) := by decide +kernel
theorem dMo_within_77 : decode cMo_within 77 = .ok (.istore_n 2, 1) := by decide +kernel
theorem dMo_within_78 : decode cMo_within 78 = .ok (.iload_n 3, 1) := by decide +kernel
theorem dMo_within_79 : decode cMo_within 79 = .ok (.ifCond .eq 37, 3) := by decide +kernel
theorem dMo_within_82 : decode cMo_within 82 = .ok (.iload 4, 2) := by decide +kernel
theorem dMo_within_84 : decode cMo_within 84 = .ok (.iconst 5, 1) := by decide +kernel
theorem dMo_within_85 : decode cMo_within 85 = .ok (.irem, 1) := by decide +kernel
theorem dMo_within_86 : decode cMo_within 86 = .ok (.iconst 4, 1) := by decide +kernel
theorem dMo_within_87 : decode cMo_within 87 = .ok (.if_icmp .eq 25, 3) := by decide +kernel
theorem dMo_within_90 : decode cMo_within 90 = .ok (.aload_n 0, 1) := by decide +kernel
theorem dMo_within_91 : decode cMo_within 91 = .ok (.getfield 61, 3) := by decide +kernel
theorem dMo_within_94 : decode cMo_within 94 = .ok (.bipush 25, 2) := by decide +kernel
theorem dMo_within_96 : decode cMo_within 96 = .ok (.iload_n 1, 1) := by decide +kernel
theorem dMo_within_97 : decode cMo_within 97 = .ok (.imul, 1) := by decide +kernel
theorem dMo_within_98 : decode cMo_within 98 = .ok (.iload 4, 2) := by decide +kernel
theorem dMo_within_100 : decode cMo_within 100 = .ok (.iadd, 1) := by decide +kernel
theorem dMo_within_101 : decode cMo_within 101 = .ok (.iaload, 1) := by decide +kernel
theorem dMo_within_102 : decode cMo_within 102 = .ok (.aload_n 0, 1) := by decide +kernel
theorem dMo_within_103 : decode cMo_within 103 = .ok (.getfield 95, 3) := by decide +kernel
theorem dMo_within_106 : decode cMo_within 106 = .ok (.iload 4, 2) := by decide +kernel
theorem dMo_within_108 : decode cMo_within 108 = .ok (.iaload, 1) := by decide +kernel
theorem dMo_within_109 : decode cMo_within 109 = .ok (.if_icmp .gt 7, 3) := by decide +kernel
theorem dMo_within_112 : decode cMo_within 112 = .ok (.iconst 1, 1) := by decide +kernel
theorem dMo_within_113 : decode cMo_within 113 = .ok (.goto 4, 3) := by decide +kernel
theorem dMo_within_116 : decode cMo_within 116 = .ok (.iconst 0, 1) := by decide +kernel
theorem dMo_within_117 : decode cMo_within 117 = .ok (.istore_n 3, 1) := by decide +kernel
theorem dMo_within_118 : decode cMo_within 118 = .ok (.iinc 4 1, 3) := by decide +kernel
theorem dMo_within_121 : decode cMo_within 121 = .ok (.goto (-90), 3) := by decide +kernel
theorem dMo_within_124 : decode cMo_within 124 = .ok (.iload_n 2, 1) := by decide +kernel
theorem dMo_within_125 : decode cMo_within 125 = .ok (.ifCond .eq 7, 3) := by decide +kernel
theorem dMo_within_128 : decode cMo_within 128 = .ok (.iconst 1, 1) := by decide +kernel
theorem dMo_within_129 : decode cMo_within 129 = .ok (.goto 4, 3) := by decide +kernel
theorem dMo_within_132 : decode cMo_within 132 = .ok (.iconst 0, 1) := by decide +kernel
theorem dMo_within_133 : decode cMo_within 133 = .ok (.iload_n 3, 1) := by decide +kernel
theorem dMo_within_134 : decode cMo_within 134 = .ok (.ifCond .eq 7, 3) := by decide +kernel
theorem dMo_within_137 : decode cMo_within 137 = .ok (.iconst 2, 1) := by decide +kernel
theorem dMo_within_138 : decode cMo_within 138 = .ok (.goto 4, 3) := by decide +kernel
theorem dMo_within_141 : decode cMo_within 141 = .ok (.iconst 0, 1) := by decide +kernel
theorem dMo_within_142 : decode cMo_within 142 = .ok (.iadd, 1) := by decide +kernel
theorem dMo_within_143 : decode cMo_within 143 = .ok (.ireturn, 1) := by decide +kernel
theorem dMo_handBound_0 : decode cMo_handBound 0 = .ok (.iload_n 1, 1) := by decide +kernel
theorem dMo_handBound_1 : decode cMo_handBound 1 = .ok (.i2l, 1) := by decide +kernel
theorem dMo_handBound_2 : decode cMo_handBound 2 = .ok (.lconst 0, 1) := by decide +kernel
theorem dMo_handBound_3 : decode cMo_handBound 3 = .ok (.ldc2_w 139, 3) := by decide +kernel
theorem dMo_handBound_6 : decode cMo_handBound 6 = .ok (.invokestatic 141, 3) := by decide +kernel
theorem dMo_handBound_9 : decode cMo_handBound 9 = .ok (.ifCond .eq 19, 3) := by decide +kernel
theorem dMo_handBound_12 : decode cMo_handBound 12 = .ok (.iload_n 2, 1) := by decide +kernel
theorem dMo_handBound_13 : decode cMo_handBound 13 = .ok (.i2l, 1) := by decide +kernel
theorem dMo_handBound_14 : decode cMo_handBound 14 = .ok (.lconst 0, 1) := by decide +kernel
theorem dMo_handBound_15 : decode cMo_handBound 15 = .ok (.ldc2_w 139, 3) := by decide +kernel
theorem dMo_handBound_18 : decode cMo_handBound 18 = .ok (.invokestatic 141, 3) := by decide +kernel
theorem dMo_handBound_21 : decode cMo_handBound 21 = .ok (.ifCond .eq 7, 3) := by decide +kernel
theorem dMo_handBound_24 : decode cMo_handBound 24 = .ok (.iconst 1, 1) := by decide +kernel
theorem dMo_handBound_25 : decode cMo_handBound 25 = .ok (.goto 4, 3) := by decide +kernel
theorem dMo_handBound_28 : decode cMo_handBound 28 = .ok (.iconst 0, 1) := by decide +kernel
theorem dMo_handBound_29 : decode cMo_handBound 29 = .ok (.istore_n 3, 1) := by decide +kernel
theorem dMo_handBound_30 : decode cMo_handBound 30 = .ok (.aload_n 0, 1) := by decide +kernel
theorem dMo_handBound_31 : decode cMo_handBound 31 = .ok (.iload_n 3, 1) := by decide +kernel
theorem dMo_handBound_32 : decode cMo_handBound 32 = .ok (.ifCond .eq 7, 3) := by decide +kernel
theorem dMo_handBound_35 : decode cMo_handBound 35 = .ok (.iconst 0, 1) := by decide +kernel
theorem dMo_handBound_36 : decode cMo_handBound 36 = .ok (.goto 4, 3) := by decide +kernel
theorem dMo_handBound_39 : decode cMo_handBound 39 = .ok (.iconst 1, 1) := by decide +kernel
theorem dMo_handBound_40 : decode cMo_handBound 40 = .ok (.putfield 124, 3) := by decide +kernel
theorem dMo_handBound_43 : decode cMo_handBound 43 = .ok (.iload_n 3, 1) := by decide +kernel
theorem dMo_handBound_44 : decode cMo_handBound 44 = .ok (.ifCond .ne 7, 3) := by decide +kernel
theorem dMo_handBound_47 : decode cMo_handBound 47 = .ok (.iconst 0, 1) := by decide +kernel
theorem dMo_handBound_48 : decode cMo_handBound 48 = .ok (.goto 26, 3) := by decide +kernel
theorem dMo_handBound_51 : decode cMo_handBound 51 = .ok (.aload_n 0, 1) := by decide +kernel
theorem dMo_handBound_52 : decode cMo_handBound 52 = .ok (.getfield 284, 3) := by decide +kernel
theorem dMo_handBound_55 : decode cMo_handBound 55 = .ok (.ifCond .eq 9, 3) := by decide +kernel
theorem dMo_handBound_58 : decode cMo_handBound 58 = .ok (.ldc_w 300, 3) := by decide +kernel
theorem dMo_handBound_61 : decode cMo_handBound 61 = .ok (.goto 13, 3) := by decide +kernel
theorem dMo_handBound_64 : decode cMo_handBound 64 = .ok (.aload_n 0, 1) := by decide +kernel
theorem dMo_handBound_65 : decode cMo_handBound 65 = .ok (.getfield 95, 3) := by decide +kernel
theorem dMo_handBound_68 : decode cMo_handBound 68 = .ok (.iconst 5, 1) := by decide +kernel
theorem dMo_handBound_69 : decode cMo_handBound 69 = .ok (.iload_n 1, 1) := by decide +kernel
theorem dMo_handBound_70 : decode cMo_handBound 70 = .ok (.imul, 1) := by decide +kernel
theorem dMo_handBound_71 : decode cMo_handBound 71 = .ok (.iload_n 2, 1) := by decide +kernel
theorem dMo_handBound_72 : decode cMo_handBound 72 = .ok (.iadd, 1) := by decide +kernel
theorem dMo_handBound_73 : decode cMo_handBound 73 = .ok (.iaload, 1) := by decide +kernel
theorem dMo_handBound_74 : decode cMo_handBound 74 = .ok (.ireturn, 1) := by decide +kernel
theorem dMo_count_0 : decode cMo_count 0 = .ok (.aload_n 0, 1) := by decide +kernel
theorem dMo_count_1 : decode cMo_count 1 = .ok (.iconst 0, 1) := by decide +kernel
theorem dMo_count_2 : decode cMo_count 2 = .ok (.putfield 124, 3) := by decide +kernel
theorem dMo_count_5 : decode cMo_count 5 = .ok (.iload_n 1, 1) := by decide +kernel
theorem dMo_count_6 : decode cMo_count 6 = .ok (.tableswitch 80 0 7 #[46, 51, 56, 61, 66, 71, 71, 71], 46) := by decide +kernel
theorem dMo_count_52 : decode cMo_count 52 = .ok (.aload_n 0, 1) := by decide +kernel
theorem dMo_count_53 : decode cMo_count 53 = .ok (.getfield 128, 3) := by decide +kernel
theorem dMo_count_56 : decode cMo_count 56 = .ok (.ireturn, 1) := by decide +kernel
theorem dMo_count_57 : decode cMo_count 57 = .ok (.aload_n 0, 1) := by decide +kernel
theorem dMo_count_58 : decode cMo_count 58 = .ok (.getfield 199, 3) := by decide +kernel
theorem dMo_count_61 : decode cMo_count 61 = .ok (.ireturn, 1) := by decide +kernel
theorem dMo_count_62 : decode cMo_count 62 = .ok (.aload_n 0, 1) := by decide +kernel
theorem dMo_count_63 : decode cMo_count 63 = .ok (.getfield 254, 3) := by decide +kernel
theorem dMo_count_66 : decode cMo_count 66 = .ok (.ireturn, 1) := by decide +kernel
theorem dMo_count_67 : decode cMo_count 67 = .ok (.aload_n 0, 1) := by decide +kernel
theorem dMo_count_68 : decode cMo_count 68 = .ok (.getfield 248, 3) := by decide +kernel
theorem dMo_count_71 : decode cMo_count 71 = .ok (.ireturn, 1) := by decide +kernel
theorem dMo_count_72 : decode cMo_count 72 = .ok (.aload_n 0, 1) := by decide +kernel
theorem dMo_count_73 : decode cMo_count 73 = .ok (.getfield 251, 3) := by decide +kernel
theorem dMo_count_76 : decode cMo_count 76 = .ok (.ireturn, 1) := by decide +kernel
theorem dMo_count_77 : decode cMo_count 77 = .ok (.aload_n 0, 1) := by decide +kernel
theorem dMo_count_78 : decode cMo_count 78 = .ok (.getfield 92, 3) := by decide +kernel
theorem dMo_count_81 : decode cMo_count 81 = .ok (.iload_n 1, 1) := by decide +kernel
theorem dMo_count_82 : decode cMo_count 82 = .ok (.iconst 5, 1) := by decide +kernel
theorem dMo_count_83 : decode cMo_count 83 = .ok (.isub, 1) := by decide +kernel
theorem dMo_count_84 : decode cMo_count 84 = .ok (.iaload, 1) := by decide +kernel
theorem dMo_count_85 : decode cMo_count 85 = .ok (.ireturn, 1) := by decide +kernel
theorem dMo_count_86 : decode cMo_count 86 = .ok (.iconst (-1), 1) := by decide +kernel
theorem dMo_count_87 : decode cMo_count 87 = .ok (.ireturn, 1) := by decide +kernel
theorem dMo_isShelf_0 : decode cMo_isShelf 0 = .ok (.iload_n 0, 1) := by decide +kernel
theorem dMo_isShelf_1 : decode cMo_isShelf 1 = .ok (.ifCond .lt 13, 3) := by decide +kernel
theorem dMo_isShelf_4 : decode cMo_isShelf 4 = .ok (.iload_n 0, 1) := by decide +kernel
theorem dMo_isShelf_5 : decode cMo_isShelf 5 = .ok (.bipush 8, 2) := by decide +kernel
theorem dMo_isShelf_7 : decode cMo_isShelf 7 = .ok (.if_icmp .ge 7, 3) := by decide +kernel
theorem dMo_isShelf_10 : decode cMo_isShelf 10 = .ok (.iconst 1, 1) := by decide +kernel
theorem dMo_isShelf_11 : decode cMo_isShelf 11 = .ok (.goto 4, 3) := by decide +kernel
theorem dMo_isShelf_14 : decode cMo_isShelf 14 = .ok (.iconst 0, 1) := by decide +kernel
theorem dMo_isShelf_15 : decode cMo_isShelf 15 = .ok (.ireturn, 1) := by decide +kernel
theorem dMo_canKeep_0 : decode cMo_canKeep 0 = .ok (.iload_n 1, 1) := by decide +kernel
theorem dMo_canKeep_1 : decode cMo_canKeep 1 = .ok (.tableswitch 52 0 3 #[31, 33, 40, 47], 31) := by decide +kernel
theorem dMo_canKeep_32 : decode cMo_canKeep 32 = .ok (.iconst 1, 1) := by decide +kernel
theorem dMo_canKeep_33 : decode cMo_canKeep 33 = .ok (.ireturn, 1) := by decide +kernel
theorem dMo_canKeep_34 : decode cMo_canKeep 34 = .ok (.aload_n 0, 1) := by decide +kernel
theorem dMo_canKeep_35 : decode cMo_canKeep 35 = .ok (.iload_n 2, 1) := by decide +kernel
theorem dMo_canKeep_36 : decode cMo_canKeep 36 = .ok (.iload_n 3, 1) := by decide +kernel
theorem dMo_canKeep_37 : decode cMo_canKeep 37 = .ok (.invokevirtual 157, 3) := by decide +kernel
theorem dMo_canKeep_40 : decode cMo_canKeep 40 = .ok (.ireturn, 1) := by decide +kernel
theorem dMo_canKeep_41 : decode cMo_canKeep 41 = .ok (.aload_n 0, 1) := by decide +kernel
theorem dMo_canKeep_42 : decode cMo_canKeep 42 = .ok (.iload_n 2, 1) := by decide +kernel
theorem dMo_canKeep_43 : decode cMo_canKeep 43 = .ok (.iload_n 3, 1) := by decide +kernel
theorem dMo_canKeep_44 : decode cMo_canKeep 44 = .ok (.invokevirtual 135, 3) := by decide +kernel
theorem dMo_canKeep_47 : decode cMo_canKeep 47 = .ok (.ireturn, 1) := by decide +kernel
theorem dMo_canKeep_48 : decode cMo_canKeep 48 = .ok (.aload_n 0, 1) := by decide +kernel
theorem dMo_canKeep_49 : decode cMo_canKeep 49 = .ok (.getfield 260, 3) := by decide +kernel
theorem dMo_canKeep_52 : decode cMo_canKeep 52 = .ok (.ireturn, 1) := by decide +kernel
theorem dMo_canKeep_53 : decode cMo_canKeep 53 = .ok (.iload_n 1, 1) := by decide +kernel
theorem dMo_canKeep_54 : decode cMo_canKeep 54 = .ok (.iconst 4, 1) := by decide +kernel
theorem dMo_canKeep_55 : decode cMo_canKeep 55 = .ok (.if_icmp .ne 15, 3) := by decide +kernel
theorem dMo_canKeep_58 : decode cMo_canKeep 58 = .ok (.aload_n 0, 1) := by decide +kernel
theorem dMo_canKeep_59 : decode cMo_canKeep 59 = .ok (.iload_n 3, 1) := by decide +kernel
theorem dMo_canKeep_60 : decode cMo_canKeep 60 = .ok (.invokevirtual 275, 3) := by decide +kernel
theorem dMo_canKeep_63 : decode cMo_canKeep 63 = .ok (.ifCond .eq 7, 3) := by decide +kernel
theorem dMo_canKeep_66 : decode cMo_canKeep 66 = .ok (.iconst 1, 1) := by decide +kernel
theorem dMo_canKeep_67 : decode cMo_canKeep 67 = .ok (.goto 4, 3) := by decide +kernel
theorem dMo_canKeep_70 : decode cMo_canKeep 70 = .ok (.iconst 0, 1) := by decide +kernel
theorem dMo_canKeep_71 : decode cMo_canKeep 71 = .ok (.ireturn, 1) := by decide +kernel
theorem dMo_keep_0 : decode cMo_keep 0 = .ok (.aload_n 0, 1) := by decide +kernel
theorem dMo_keep_1 : decode cMo_keep 1 = .ok (.iconst 0, 1) := by decide +kernel
theorem dMo_keep_2 : decode cMo_keep 2 = .ok (.putfield 124, 3) := by decide +kernel
theorem dMo_keep_5 : decode cMo_keep 5 = .ok (.iload_n 1, 1) := by decide +kernel
theorem dMo_keep_6 : decode cMo_keep 6 = .ok (.invokestatic 301, 3) := by decide +kernel
theorem dMo_keep_9 : decode cMo_keep 9 = .ok (.ifCond .eq 14, 3) := by decide +kernel
theorem dMo_keep_12 : decode cMo_keep 12 = .ok (.aload_n 0, 1) := by decide +kernel
theorem dMo_keep_13 : decode cMo_keep 13 = .ok (.iload_n 2, 1) := by decide +kernel
theorem dMo_keep_14 : decode cMo_keep 14 = .ok (.iload_n 3, 1) := by decide +kernel
theorem dMo_keep_15 : decode cMo_keep 15 = .ok (.iload 4, 2) := by decide +kernel
theorem dMo_keep_17 : decode cMo_keep 17 = .ok (.invokevirtual 304, 3) := by decide +kernel
theorem dMo_keep_20 : decode cMo_keep 20 = .ok (.ifCond .ne 5, 3) := by decide +kernel
theorem dMo_keep_23 : decode cMo_keep 23 = .ok (.iconst (-1), 1) := by decide +kernel
theorem dMo_keep_24 : decode cMo_keep 24 = .ok (.ireturn, 1) := by decide +kernel
theorem dMo_keep_25 : decode cMo_keep 25 = .ok (.aload_n 0, 1) := by decide +kernel
theorem dMo_keep_26 : decode cMo_keep 26 = .ok (.getfield 101, 3) := by decide +kernel
theorem dMo_keep_29 : decode cMo_keep 29 = .ok (.iload_n 1, 1) := by decide +kernel
theorem dMo_keep_30 : decode cMo_keep 30 = .ok (.iload_n 2, 1) := by decide +kernel
theorem dMo_keep_31 : decode cMo_keep 31 = .ok (.iastore, 1) := by decide +kernel
theorem dMo_keep_32 : decode cMo_keep 32 = .ok (.aload_n 0, 1) := by decide +kernel
theorem dMo_keep_33 : decode cMo_keep 33 = .ok (.getfield 104, 3) := by decide +kernel
theorem dMo_keep_36 : decode cMo_keep 36 = .ok (.iload_n 1, 1) := by decide +kernel
theorem dMo_keep_37 : decode cMo_keep 37 = .ok (.iload_n 2, 1) := by decide +kernel
theorem dMo_keep_38 : decode cMo_keep 38 = .ok (.iconst 3, 1) := by decide +kernel
theorem dMo_keep_39 : decode cMo_keep 39 = .ok (.if_icmp .ge 7, 3) := by decide +kernel
theorem dMo_keep_42 : decode cMo_keep 42 = .ok (.iconst 0, 1) := by decide +kernel
theorem dMo_keep_43 : decode cMo_keep 43 = .ok (.goto 31, 3) := by decide +kernel
theorem dMo_keep_46 : decode cMo_keep 46 = .ok (.iload_n 2, 1) := by decide +kernel
theorem dMo_keep_47 : decode cMo_keep 47 = .ok (.iconst 4, 1) := by decide +kernel
theorem dMo_keep_48 : decode cMo_keep 48 = .ok (.if_icmp .ne 8, 3) := by decide +kernel
theorem dMo_keep_51 : decode cMo_keep 51 = .ok (.bipush 16, 2) := by decide +kernel
theorem dMo_keep_53 : decode cMo_keep 53 = .ok (.goto 21, 3) := by decide +kernel
theorem dMo_keep_56 : decode cMo_keep 56 = .ok (.aload_n 0, 1) := by decide +kernel
theorem dMo_keep_57 : decode cMo_keep 57 = .ok (.getfield 199, 3) := by decide +kernel
theorem dMo_keep_60 : decode cMo_keep 60 = .ok (.bipush 60, 2) := by decide +kernel
theorem dMo_keep_62 : decode cMo_keep 62 = .ok (.if_icmp .ge 10, 3) := by decide +kernel
theorem dMo_keep_65 : decode cMo_keep 65 = .ok (.aload_n 0, 1) := by decide +kernel
theorem dMo_keep_66 : decode cMo_keep 66 = .ok (.getfield 199, 3) := by decide +kernel
theorem dMo_keep_69 : decode cMo_keep 69 = .ok (.goto 5, 3) := by decide +kernel
theorem dMo_keep_72 : decode cMo_keep 72 = .ok (.bipush 60, 2) := by decide +kernel
theorem dMo_keep_74 : decode cMo_keep 74 = .ok (.iastore, 1) := by decide +kernel
theorem dMo_keep_75 : decode cMo_keep 75 = .ok (.iload_n 2, 1) := by decide +kernel
theorem dMo_keep_76 : decode cMo_keep 76 = .ok (.iconst 1, 1) := by decide +kernel
theorem dMo_keep_77 : decode cMo_keep 77 = .ok (.if_icmp .ne 103, 3) := by decide +kernel
theorem dMo_keep_80 : decode cMo_keep 80 = .ok (.bipush 12, 2) := by decide +kernel
theorem dMo_keep_82 : decode cMo_keep 82 = .ok (.iload_n 3, 1) := by decide +kernel
theorem dMo_keep_83 : decode cMo_keep 83 = .ok (.imul, 1) := by decide +kernel
theorem dMo_keep_84 : decode cMo_keep 84 = .ok (.iload 4, 2) := by decide +kernel
theorem dMo_keep_86 : decode cMo_keep 86 = .ok (.iadd, 1) := by decide +kernel
theorem dMo_keep_87 : decode cMo_keep 87 = .ok (.istore 5, 2) := by decide +kernel
theorem dMo_keep_89 : decode cMo_keep 89 = .ok (.bipush 10, 2) := by decide +kernel
theorem dMo_keep_91 : decode cMo_keep 91 = .ok (.aload_n 0, 1) := by decide +kernel
theorem dMo_keep_92 : decode cMo_keep 92 = .ok (.getfield 37, 3) := by decide +kernel
theorem dMo_keep_95 : decode cMo_keep 95 = .ok (.iload 5, 2) := by decide +kernel
theorem dMo_keep_97 : decode cMo_keep 97 = .ok (.iaload, 1) := by decide +kernel
theorem dMo_keep_98 : decode cMo_keep 98 = .ok (.iadd, 1) := by decide +kernel
theorem dMo_keep_99 : decode cMo_keep 99 = .ok (.aload_n 0, 1) := by decide +kernel
theorem dMo_keep_100 : decode cMo_keep 100 = .ok (.getfield 31, 3) := by decide +kernel
theorem dMo_keep_103 : decode cMo_keep 103 = .ok (.iload 5, 2) := by decide +kernel
theorem dMo_keep_105 : decode cMo_keep 105 = .ok (.iaload, 1) := by decide +kernel
theorem dMo_keep_106 : decode cMo_keep 106 = .ok (.ifCond .ne 7, 3) := by decide +kernel
theorem dMo_keep_109 : decode cMo_keep 109 = .ok (.iconst 0, 1) := by decide +kernel
theorem dMo_keep_110 : decode cMo_keep 110 = .ok (.goto 5, 3) := by decide +kernel
theorem dMo_keep_113 : decode cMo_keep 113 = .ok (.bipush 100, 2) := by decide +kernel
theorem dMo_keep_115 : decode cMo_keep 115 = .ok (.iadd, 1) := by decide +kernel
theorem dMo_keep_116 : decode cMo_keep 116 = .ok (.istore 6, 2) := by decide +kernel
theorem dMo_keep_118 : decode cMo_keep 118 = .ok (.aload_n 0, 1) := by decide +kernel
theorem dMo_keep_119 : decode cMo_keep 119 = .ok (.getfield 107, 3) := by decide +kernel
theorem dMo_keep_122 : decode cMo_keep 122 = .ok (.iload_n 1, 1) := by decide +kernel
theorem dMo_keep_123 : decode cMo_keep 123 = .ok (.aload_n 0, 1) := by decide +kernel
theorem dMo_keep_124 : decode cMo_keep 124 = .ok (.getfield 31, 3) := by decide +kernel
theorem dMo_keep_127 : decode cMo_keep 127 = .ok (.iload 5, 2) := by decide +kernel
theorem dMo_keep_129 : decode cMo_keep 129 = .ok (.iaload, 1) := by decide +kernel
theorem dMo_keep_130 : decode cMo_keep 130 = .ok (.ifCond .ge 10, 3) := by decide +kernel
theorem dMo_keep_133 : decode cMo_keep 133 = .ok (.iconst 2, 1) := by decide +kernel
theorem dMo_keep_134 : decode cMo_keep 134 = .ok (.iload 6, 2) := by decide +kernel
theorem dMo_keep_136 : decode cMo_keep 136 = .ok (.imul, 1) := by decide +kernel
theorem dMo_keep_137 : decode cMo_keep 137 = .ok (.goto 5, 3) := by decide +kernel
theorem dMo_keep_140 : decode cMo_keep 140 = .ok (.iload 6, 2) := by decide +kernel
theorem dMo_keep_142 : decode cMo_keep 142 = .ok (.iastore, 1) := by decide +kernel
theorem dMo_keep_143 : decode cMo_keep 143 = .ok (.aload_n 0, 1) := by decide +kernel
theorem dMo_keep_144 : decode cMo_keep 144 = .ok (.getfield 110, 3) := by decide +kernel
theorem dMo_keep_147 : decode cMo_keep 147 = .ok (.iload_n 1, 1) := by decide +kernel
theorem dMo_keep_148 : decode cMo_keep 148 = .ok (.aload_n 0, 1) := by decide +kernel
theorem dMo_keep_149 : decode cMo_keep 149 = .ok (.getfield 31, 3) := by decide +kernel
theorem dMo_keep_152 : decode cMo_keep 152 = .ok (.iload 5, 2) := by decide +kernel
theorem dMo_keep_154 : decode cMo_keep 154 = .ok (.iaload, 1) := by decide +kernel
theorem dMo_keep_155 : decode cMo_keep 155 = .ok (.ifCond .ge 14, 3) := by decide +kernel
theorem dMo_keep_158 : decode cMo_keep 158 = .ok (.aload_n 0, 1) := by decide +kernel
theorem dMo_keep_159 : decode cMo_keep 159 = .ok (.getfield 31, 3) := by decide +kernel
theorem dMo_keep_162 : decode cMo_keep 162 = .ok (.iload 5, 2) := by decide +kernel
theorem dMo_keep_164 : decode cMo_keep 164 = .ok (.iaload, 1) := by decide +kernel
theorem dMo_keep_165 : decode cMo_keep 165 = .ok (.ineg, 1) := by decide +kernel
theorem dMo_keep_166 : decode cMo_keep 166 = .ok (.goto 10, 3) := by decide +kernel
theorem dMo_keep_169 : decode cMo_keep 169 = .ok (.aload_n 0, 1) := by decide +kernel
theorem dMo_keep_170 : decode cMo_keep 170 = .ok (.getfield 31, 3) := by decide +kernel
theorem dMo_keep_173 : decode cMo_keep 173 = .ok (.iload 5, 2) := by decide +kernel
theorem dMo_keep_175 : decode cMo_keep 175 = .ok (.iaload, 1) := by decide +kernel
theorem dMo_keep_176 : decode cMo_keep 176 = .ok (.iastore, 1) := by decide +kernel
theorem dMo_keep_177 : decode cMo_keep 177 = .ok (.goto 28, 3) := by decide +kernel
theorem dMo_keep_180 : decode cMo_keep 180 = .ok (.iload_n 2, 1) := by decide +kernel
theorem dMo_keep_181 : decode cMo_keep 181 = .ok (.iconst 2, 1) := by decide +kernel
theorem dMo_keep_182 : decode cMo_keep 182 = .ok (.if_icmp .ne 23, 3) := by decide +kernel
theorem dMo_keep_185 : decode cMo_keep 185 = .ok (.aload_n 0, 1) := by decide +kernel
theorem dMo_keep_186 : decode cMo_keep 186 = .ok (.getfield 107, 3) := by decide +kernel
theorem dMo_keep_189 : decode cMo_keep 189 = .ok (.iload_n 1, 1) := by decide +kernel
theorem dMo_keep_190 : decode cMo_keep 190 = .ok (.iconst 3, 1) := by decide +kernel
theorem dMo_keep_191 : decode cMo_keep 191 = .ok (.aload_n 0, 1) := by decide +kernel
theorem dMo_keep_192 : decode cMo_keep 192 = .ok (.getfield 16, 3) := by decide +kernel
theorem dMo_keep_195 : decode cMo_keep 195 = .ok (.bipush 6, 2) := by decide +kernel
theorem dMo_keep_197 : decode cMo_keep 197 = .ok (.iload_n 3, 1) := by decide +kernel
theorem dMo_keep_198 : decode cMo_keep 198 = .ok (.imul, 1) := by decide +kernel
theorem dMo_keep_199 : decode cMo_keep 199 = .ok (.iload 4, 2) := by decide +kernel
theorem dMo_keep_201 : decode cMo_keep 201 = .ok (.iadd, 1) := by decide +kernel
theorem dMo_keep_202 : decode cMo_keep 202 = .ok (.iaload, 1) := by decide +kernel
theorem dMo_keep_203 : decode cMo_keep 203 = .ok (.iadd, 1) := by decide +kernel
theorem dMo_keep_204 : decode cMo_keep 204 = .ok (.iastore, 1) := by decide +kernel
theorem dMo_keep_205 : decode cMo_keep 205 = .ok (.iconst 0, 1) := by decide +kernel
theorem dMo_keep_206 : decode cMo_keep 206 = .ok (.istore 5, 2) := by decide +kernel
theorem dMo_keep_208 : decode cMo_keep 208 = .ok (.iload 5, 2) := by decide +kernel
theorem dMo_keep_210 : decode cMo_keep 210 = .ok (.aload_n 0, 1) := by decide +kernel
theorem dMo_keep_211 : decode cMo_keep 211 = .ok (.getfield 104, 3) := by decide +kernel
theorem dMo_keep_214 : decode cMo_keep 214 = .ok (.iload_n 1, 1) := by decide +kernel
theorem dMo_keep_215 : decode cMo_keep 215 = .ok (.iaload, 1) := by decide +kernel
theorem dMo_keep_216 : decode cMo_keep 216 = .ok (.if_icmp .ge 62, 3) := by decide +kernel
theorem dMo_keep_219 : decode cMo_keep 219 = .ok (.aload_n 0, 1) := by decide +kernel
theorem dMo_keep_220 : decode cMo_keep 220 = .ok (.getfield 113, 3) := by decide +kernel
theorem dMo_keep_223 : decode cMo_keep 223 = .ok (.bipush 60, 2) := by decide +kernel
theorem dMo_keep_225 : decode cMo_keep 225 = .ok (.iload_n 1, 1) := by decide +kernel
theorem dMo_keep_226 : decode cMo_keep 226 = .ok (.imul, 1) := by decide +kernel
theorem dMo_keep_227 : decode cMo_keep 227 = .ok (.iload 5, 2) := by decide +kernel
theorem dMo_keep_229 : decode cMo_keep 229 = .ok (.iadd, 1) := by decide +kernel
theorem dMo_keep_230 : decode cMo_keep 230 = .ok (.iload_n 2, 1) := by decide +kernel
theorem dMo_keep_231 : decode cMo_keep 231 = .ok (.iconst 3, 1) := by decide +kernel
theorem dMo_keep_232 : decode cMo_keep 232 = .ok (.if_icmp .ne 16, 3) := by decide +kernel
theorem dMo_keep_235 : decode cMo_keep 235 = .ok (.aload_n 0, 1) := by decide +kernel
theorem dMo_keep_236 : decode cMo_keep 236 = .ok (.getfield 58, 3) := by decide +kernel
theorem dMo_keep_239 : decode cMo_keep 239 = .ok (.iconst 3, 1) := by decide +kernel
theorem dMo_keep_240 : decode cMo_keep 240 = .ok (.iload 5, 2) := by decide +kernel
theorem dMo_keep_242 : decode cMo_keep 242 = .ok (.imul, 1) := by decide +kernel
theorem dMo_keep_243 : decode cMo_keep 243 = .ok (.iaload, 1) := by decide +kernel
theorem dMo_keep_244 : decode cMo_keep 244 = .ok (.i2l, 1) := by decide +kernel
theorem dMo_keep_245 : decode cMo_keep 245 = .ok (.goto 26, 3) := by decide +kernel
theorem dMo_keep_248 : decode cMo_keep 248 = .ok (.aload_n 0, 1) := by decide +kernel
theorem dMo_keep_249 : decode cMo_keep 249 = .ok (.getfield 61, 3) := by decide +kernel
theorem dMo_keep_252 : decode cMo_keep 252 = .ok (.bipush 25, 2) := by decide +kernel
theorem dMo_keep_254 : decode cMo_keep 254 = .ok (.iload 4, 2) := by decide +kernel
theorem dMo_keep_256 : decode cMo_keep 256 = .ok (.imul, 1) := by decide +kernel
theorem dMo_keep_257 : decode cMo_keep 257 = .ok (.iconst 5, 1) := by decide +kernel
theorem dMo_keep_258 : decode cMo_keep 258 = .ok (.iload 5, 2) := by decide +kernel
theorem dMo_keep_260 : decode cMo_keep 260 = .ok (.iconst 4, 1) := by decide +kernel
theorem dMo_keep_261 : decode cMo_keep 261 = .ok (.idiv, 1) := by decide +kernel
theorem dMo_keep_262 : decode cMo_keep 262 = .ok (.imul, 1) := by decide +kernel
theorem dMo_keep_263 : decode cMo_keep 263 = .ok (.iadd, 1) := by decide +kernel
theorem dMo_keep_264 : decode cMo_keep 264 = .ok (.iload 5, 2) := by decide +kernel
theorem dMo_keep_266 : decode cMo_keep 266 = .ok (.iconst 4, 1) := by decide +kernel
theorem dMo_keep_267 : decode cMo_keep 267 = .ok (.irem, 1) := by decide +kernel
theorem dMo_keep_268 : decode cMo_keep 268 = .ok (.iadd, 1) := by decide +kernel
theorem dMo_keep_269 : decode cMo_keep 269 = .ok (.iaload, 1) := by decide +kernel
theorem dMo_keep_270 : decode cMo_keep 270 = .ok (.i2l, 1) := by decide +kernel
theorem dMo_keep_271 : decode cMo_keep 271 = .ok (.lastore, 1) := by decide +kernel
theorem dMo_keep_272 : decode cMo_keep 272 = .ok (.iinc 5 1, 3) := by decide +kernel
theorem dMo_keep_275 : decode cMo_keep 275 = .ok (.goto (-67), 3) := by decide +kernel
theorem dMo_keep_278 : decode cMo_keep 278 = .ok (.iconst 0, 1) := by decide +kernel
theorem dMo_keep_279 : decode cMo_keep 279 = .ok (.ireturn, 1) := by decide +kernel
theorem dMo_make_0 : decode cMo_make 0 = .ok (.aload_n 0, 1) := by decide +kernel
theorem dMo_make_1 : decode cMo_make 1 = .ok (.iconst 0, 1) := by decide +kernel
theorem dMo_make_2 : decode cMo_make 2 = .ok (.putfield 124, 3) := by decide +kernel
theorem dMo_make_5 : decode cMo_make 5 = .ok (.iload_n 1, 1) := by decide +kernel
theorem dMo_make_6 : decode cMo_make 6 = .ok (.invokestatic 301, 3) := by decide +kernel
theorem dMo_make_9 : decode cMo_make 9 = .ok (.ifCond .eq 23, 3) := by decide +kernel
theorem dMo_make_12 : decode cMo_make 12 = .ok (.iload_n 2, 1) := by decide +kernel
theorem dMo_make_13 : decode cMo_make 13 = .ok (.i2l, 1) := by decide +kernel
theorem dMo_make_14 : decode cMo_make 14 = .ok (.ldc2_w 139, 3) := by decide +kernel
theorem dMo_make_17 : decode cMo_make 17 = .ok (.ldc2_w 308, 3) := by decide +kernel
theorem dMo_make_20 : decode cMo_make 20 = .ok (.invokestatic 141, 3) := by decide +kernel
theorem dMo_make_23 : decode cMo_make 23 = .ok (.ifCond .eq 9, 3) := by decide +kernel
theorem dMo_make_26 : decode cMo_make 26 = .ok (.iload_n 3, 1) := by decide +kernel
theorem dMo_make_27 : decode cMo_make 27 = .ok (.bipush 60, 2) := by decide +kernel
theorem dMo_make_29 : decode cMo_make 29 = .ok (.if_icmp .le 5, 3) := by decide +kernel
theorem dMo_make_32 : decode cMo_make 32 = .ok (.iconst (-1), 1) := by decide +kernel
theorem dMo_make_33 : decode cMo_make 33 = .ok (.ireturn, 1) := by decide +kernel
theorem dMo_make_34 : decode cMo_make 34 = .ok (.iload_n 3, 1) := by decide +kernel
theorem dMo_make_35 : decode cMo_make 35 = .ok (.ifCond .ge 6, 3) := by decide +kernel
theorem dMo_make_38 : decode cMo_make 38 = .ok (.bipush (-14), 2) := by decide +kernel
theorem dMo_make_40 : decode cMo_make 40 = .ok (.ireturn, 1) := by decide +kernel
theorem dMo_make_41 : decode cMo_make 41 = .ok (.aload_n 0, 1) := by decide +kernel
theorem dMo_make_42 : decode cMo_make 42 = .ok (.getfield 101, 3) := by decide +kernel
theorem dMo_make_45 : decode cMo_make 45 = .ok (.iload_n 1, 1) := by decide +kernel
theorem dMo_make_46 : decode cMo_make 46 = .ok (.iload_n 2, 1) := by decide +kernel
theorem dMo_make_47 : decode cMo_make 47 = .ok (.iastore, 1) := by decide +kernel
theorem dMo_make_48 : decode cMo_make 48 = .ok (.aload_n 0, 1) := by decide +kernel
theorem dMo_make_49 : decode cMo_make 49 = .ok (.getfield 104, 3) := by decide +kernel
theorem dMo_make_52 : decode cMo_make 52 = .ok (.iload_n 1, 1) := by decide +kernel
theorem dMo_make_53 : decode cMo_make 53 = .ok (.iload_n 3, 1) := by decide +kernel
theorem dMo_make_54 : decode cMo_make 54 = .ok (.iastore, 1) := by decide +kernel
theorem dMo_make_55 : decode cMo_make 55 = .ok (.iconst 0, 1) := by decide +kernel
theorem dMo_make_56 : decode cMo_make 56 = .ok (.istore 4, 2) := by decide +kernel
theorem dMo_make_58 : decode cMo_make 58 = .ok (.iload 4, 2) := by decide +kernel
theorem dMo_make_60 : decode cMo_make 60 = .ok (.iload_n 3, 1) := by decide +kernel
theorem dMo_make_61 : decode cMo_make 61 = .ok (.if_icmp .ge 22, 3) := by decide +kernel
theorem dMo_make_64 : decode cMo_make 64 = .ok (.aload_n 0, 1) := by decide +kernel
theorem dMo_make_65 : decode cMo_make 65 = .ok (.getfield 113, 3) := by decide +kernel
theorem dMo_make_68 : decode cMo_make 68 = .ok (.bipush 60, 2) := by decide +kernel
theorem dMo_make_70 : decode cMo_make 70 = .ok (.iload_n 1, 1) := by decide +kernel
theorem dMo_make_71 : decode cMo_make 71 = .ok (.imul, 1) := by decide +kernel
theorem dMo_make_72 : decode cMo_make 72 = .ok (.iload 4, 2) := by decide +kernel
theorem dMo_make_74 : decode cMo_make 74 = .ok (.iadd, 1) := by decide +kernel
theorem dMo_make_75 : decode cMo_make 75 = .ok (.lconst 0, 1) := by decide +kernel
theorem dMo_make_76 : decode cMo_make 76 = .ok (.lastore, 1) := by decide +kernel
theorem dMo_make_77 : decode cMo_make 77 = .ok (.iinc 4 1, 3) := by decide +kernel
theorem dMo_make_80 : decode cMo_make 80 = .ok (.goto (-22), 3) := by decide +kernel
theorem dMo_make_83 : decode cMo_make 83 = .ok (.iconst 0, 1) := by decide +kernel
theorem dMo_make_84 : decode cMo_make 84 = .ok (.ireturn, 1) := by decide +kernel
theorem dMo_element_0 : decode cMo_element 0 = .ok (.iload_n 1, 1) := by decide +kernel
theorem dMo_element_1 : decode cMo_element 1 = .ok (.invokestatic 301, 3) := by decide +kernel
theorem dMo_element_4 : decode cMo_element 4 = .ok (.ifCond .eq 35, 3) := by decide +kernel
theorem dMo_element_7 : decode cMo_element 7 = .ok (.aload_n 0, 1) := by decide +kernel
theorem dMo_element_8 : decode cMo_element 8 = .ok (.getfield 101, 3) := by decide +kernel
theorem dMo_element_11 : decode cMo_element 11 = .ok (.iload_n 1, 1) := by decide +kernel
theorem dMo_element_12 : decode cMo_element 12 = .ok (.iaload, 1) := by decide +kernel
theorem dMo_element_13 : decode cMo_element 13 = .ok (.iconst 2, 1) := by decide +kernel
theorem dMo_element_14 : decode cMo_element 14 = .ok (.if_icmp .le 25, 3) := by decide +kernel
theorem dMo_element_17 : decode cMo_element 17 = .ok (.iload_n 2, 1) := by decide +kernel
theorem dMo_element_18 : decode cMo_element 18 = .ok (.i2l, 1) := by decide +kernel
theorem dMo_element_19 : decode cMo_element 19 = .ok (.lconst 0, 1) := by decide +kernel
theorem dMo_element_20 : decode cMo_element 20 = .ok (.aload_n 0, 1) := by decide +kernel
theorem dMo_element_21 : decode cMo_element 21 = .ok (.getfield 104, 3) := by decide +kernel
theorem dMo_element_24 : decode cMo_element 24 = .ok (.iload_n 1, 1) := by decide +kernel
theorem dMo_element_25 : decode cMo_element 25 = .ok (.iaload, 1) := by decide +kernel
theorem dMo_element_26 : decode cMo_element 26 = .ok (.iconst 1, 1) := by decide +kernel
theorem dMo_element_27 : decode cMo_element 27 = .ok (.isub, 1) := by decide +kernel
theorem dMo_element_28 : decode cMo_element 28 = .ok (.i2l, 1) := by decide +kernel
theorem dMo_element_29 : decode cMo_element 29 = .ok (.invokestatic 141, 3) := by decide +kernel
theorem dMo_element_32 : decode cMo_element 32 = .ok (.ifCond .eq 7, 3) := by decide +kernel
theorem dMo_element_35 : decode cMo_element 35 = .ok (.iconst 1, 1) := by decide +kernel
theorem dMo_element_36 : decode cMo_element 36 = .ok (.goto 4, 3) := by decide +kernel
theorem dMo_element_39 : decode cMo_element 39 = .ok (.iconst 0, 1) := by decide +kernel
theorem dMo_element_40 : decode cMo_element 40 = .ok (.istore_n 3, 1) := by decide +kernel
theorem dMo_element_41 : decode cMo_element 41 = .ok (.aload_n 0, 1) := by decide +kernel
theorem dMo_element_42 : decode cMo_element 42 = .ok (.iload_n 1, 1) := by decide +kernel
theorem dMo_element_43 : decode cMo_element 43 = .ok (.invokestatic 301, 3) := by decide +kernel
theorem dMo_element_46 : decode cMo_element 46 = .ok (.ifCond .ne 7, 3) := by decide +kernel
theorem dMo_element_49 : decode cMo_element 49 = .ok (.iconst 1, 1) := by decide +kernel
theorem dMo_element_50 : decode cMo_element 50 = .ok (.goto 12, 3) := by decide +kernel
theorem dMo_element_53 : decode cMo_element 53 = .ok (.iload_n 3, 1) := by decide +kernel
theorem dMo_element_54 : decode cMo_element 54 = .ok (.ifCond .eq 7, 3) := by decide +kernel
theorem dMo_element_57 : decode cMo_element 57 = .ok (.iconst 0, 1) := by decide +kernel
theorem dMo_element_58 : decode cMo_element 58 = .ok (.goto 4, 3) := by decide +kernel
theorem dMo_element_61 : decode cMo_element 61 = .ok (.iconst 2, 1) := by decide +kernel
theorem dMo_element_62 : decode cMo_element 62 = .ok (.putfield 124, 3) := by decide +kernel
theorem dMo_element_65 : decode cMo_element 65 = .ok (.iload_n 3, 1) := by decide +kernel
theorem dMo_element_66 : decode cMo_element 66 = .ok (.ifCond .eq 17, 3) := by decide +kernel
theorem dMo_element_69 : decode cMo_element 69 = .ok (.aload_n 0, 1) := by decide +kernel
theorem dMo_element_70 : decode cMo_element 70 = .ok (.getfield 113, 3) := by decide +kernel
theorem dMo_element_73 : decode cMo_element 73 = .ok (.bipush 60, 2) := by decide +kernel
theorem dMo_element_75 : decode cMo_element 75 = .ok (.iload_n 1, 1) := by decide +kernel
theorem dMo_element_76 : decode cMo_element 76 = .ok (.imul, 1) := by decide +kernel
theorem dMo_element_77 : decode cMo_element 77 = .ok (.iload_n 2, 1) := by decide +kernel
theorem dMo_element_78 : decode cMo_element 78 = .ok (.iadd, 1) := by decide +kernel
theorem dMo_element_79 : decode cMo_element 79 = .ok (.laload, 1) := by decide +kernel
theorem dMo_element_80 : decode cMo_element 80 = .ok (.goto 4, 3) := by decide +kernel
theorem dMo_element_83 : decode cMo_element 83 = .ok (.lconst 0, 1) := by decide +kernel
theorem dMo_element_84 : decode cMo_element 84 = .ok (.lreturn, 1) := by decide +kernel
theorem dMo_hasPlaces_0 : decode cMo_hasPlaces 0 = .ok (.iload_n 3, 1) := by decide +kernel
theorem dMo_hasPlaces_1 : decode cMo_hasPlaces 1 = .ok (.ifCond .lt 33, 3) := by decide +kernel
theorem dMo_hasPlaces_4 : decode cMo_hasPlaces 4 = .ok (.iload_n 2, 1) := by decide +kernel
theorem dMo_hasPlaces_5 : decode cMo_hasPlaces 5 = .ok (.ifCond .lt 29, 3) := by decide +kernel
theorem dMo_hasPlaces_8 : decode cMo_hasPlaces 8 = .ok (.iload_n 2, 1) := by decide +kernel
theorem dMo_hasPlaces_9 : decode cMo_hasPlaces 9 = .ok (.aload_n 0, 1) := by decide +kernel
theorem dMo_hasPlaces_10 : decode cMo_hasPlaces 10 = .ok (.getfield 104, 3) := by decide +kernel
theorem dMo_hasPlaces_13 : decode cMo_hasPlaces 13 = .ok (.iload_n 1, 1) := by decide +kernel
theorem dMo_hasPlaces_14 : decode cMo_hasPlaces 14 = .ok (.iaload, 1) := by decide +kernel
theorem dMo_hasPlaces_15 : decode cMo_hasPlaces 15 = .ok (.if_icmp .gt 19, 3) := by decide +kernel
theorem dMo_hasPlaces_18 : decode cMo_hasPlaces 18 = .ok (.iload_n 3, 1) := by decide +kernel
theorem dMo_hasPlaces_19 : decode cMo_hasPlaces 19 = .ok (.aload_n 0, 1) := by decide +kernel
theorem dMo_hasPlaces_20 : decode cMo_hasPlaces 20 = .ok (.getfield 104, 3) := by decide +kernel
theorem dMo_hasPlaces_23 : decode cMo_hasPlaces 23 = .ok (.iload_n 1, 1) := by decide +kernel
theorem dMo_hasPlaces_24 : decode cMo_hasPlaces 24 = .ok (.iaload, 1) := by decide +kernel
theorem dMo_hasPlaces_25 : decode cMo_hasPlaces 25 = .ok (.iload_n 2, 1) := by decide +kernel
theorem dMo_hasPlaces_26 : decode cMo_hasPlaces 26 = .ok (.isub, 1) := by decide +kernel
theorem dMo_hasPlaces_27 : decode cMo_hasPlaces 27 = .ok (.if_icmp .gt 7, 3) := by decide +kernel
theorem dMo_hasPlaces_30 : decode cMo_hasPlaces 30 = .ok (.iconst 1, 1) := by decide +kernel
theorem dMo_hasPlaces_31 : decode cMo_hasPlaces 31 = .ok (.goto 4, 3) := by decide +kernel
theorem dMo_hasPlaces_34 : decode cMo_hasPlaces 34 = .ok (.iconst 0, 1) := by decide +kernel
theorem dMo_hasPlaces_35 : decode cMo_hasPlaces 35 = .ok (.ireturn, 1) := by decide +kernel
theorem dMo_copy_0 : decode cMo_copy 0 = .ok (.aload_n 0, 1) := by decide +kernel
theorem dMo_copy_1 : decode cMo_copy 1 = .ok (.iconst 0, 1) := by decide +kernel
theorem dMo_copy_2 : decode cMo_copy 2 = .ok (.putfield 124, 3) := by decide +kernel
theorem dMo_copy_5 : decode cMo_copy 5 = .ok (.iload_n 1, 1) := by decide +kernel
theorem dMo_copy_6 : decode cMo_copy 6 = .ok (.invokestatic 301, 3) := by decide +kernel
theorem dMo_copy_9 : decode cMo_copy 9 = .ok (.ifCond .eq 10, 3) := by decide +kernel
theorem dMo_copy_12 : decode cMo_copy 12 = .ok (.iload_n 3, 1) := by decide +kernel
theorem dMo_copy_13 : decode cMo_copy 13 = .ok (.invokestatic 301, 3) := by decide +kernel
theorem dMo_copy_16 : decode cMo_copy 16 = .ok (.ifCond .ne 5, 3) := by decide +kernel
theorem dMo_copy_19 : decode cMo_copy 19 = .ok (.iconst (-1), 1) := by decide +kernel
theorem dMo_copy_20 : decode cMo_copy 20 = .ok (.ireturn, 1) := by decide +kernel
theorem dMo_copy_21 : decode cMo_copy 21 = .ok (.aload_n 0, 1) := by decide +kernel
theorem dMo_copy_22 : decode cMo_copy 22 = .ok (.getfield 101, 3) := by decide +kernel
theorem dMo_copy_25 : decode cMo_copy 25 = .ok (.iload_n 1, 1) := by decide +kernel
theorem dMo_copy_26 : decode cMo_copy 26 = .ok (.iaload, 1) := by decide +kernel
theorem dMo_copy_27 : decode cMo_copy 27 = .ok (.ifCond .eq 12, 3) := by decide +kernel
theorem dMo_copy_30 : decode cMo_copy 30 = .ok (.aload_n 0, 1) := by decide +kernel
theorem dMo_copy_31 : decode cMo_copy 31 = .ok (.getfield 101, 3) := by decide +kernel
theorem dMo_copy_34 : decode cMo_copy 34 = .ok (.iload_n 3, 1) := by decide +kernel
theorem dMo_copy_35 : decode cMo_copy 35 = .ok (.iaload, 1) := by decide +kernel
theorem dMo_copy_36 : decode cMo_copy 36 = .ok (.ifCond .ne 6, 3) := by decide +kernel
theorem dMo_copy_39 : decode cMo_copy 39 = .ok (.bipush (-11), 2) := by decide +kernel
theorem dMo_copy_41 : decode cMo_copy 41 = .ok (.ireturn, 1) := by decide +kernel
theorem dMo_copy_42 : decode cMo_copy 42 = .ok (.aload_n 0, 1) := by decide +kernel
theorem dMo_copy_43 : decode cMo_copy 43 = .ok (.getfield 101, 3) := by decide +kernel
theorem dMo_copy_46 : decode cMo_copy 46 = .ok (.iload_n 1, 1) := by decide +kernel
theorem dMo_copy_47 : decode cMo_copy 47 = .ok (.iaload, 1) := by decide +kernel
theorem dMo_copy_48 : decode cMo_copy 48 = .ok (.iconst 3, 1) := by decide +kernel
theorem dMo_copy_49 : decode cMo_copy 49 = .ok (.if_icmp .lt 18, 3) := by decide +kernel
theorem dMo_copy_52 : decode cMo_copy 52 = .ok (.aload_n 0, 1) := by decide +kernel
theorem dMo_copy_53 : decode cMo_copy 53 = .ok (.getfield 101, 3) := by decide +kernel
theorem dMo_copy_56 : decode cMo_copy 56 = .ok (.iload_n 1, 1) := by decide +kernel
theorem dMo_copy_57 : decode cMo_copy 57 = .ok (.iaload, 1) := by decide +kernel
theorem dMo_copy_58 : decode cMo_copy 58 = .ok (.aload_n 0, 1) := by decide +kernel
theorem dMo_copy_59 : decode cMo_copy 59 = .ok (.getfield 101, 3) := by decide +kernel
theorem dMo_copy_62 : decode cMo_copy 62 = .ok (.iload_n 3, 1) := by decide +kernel
theorem dMo_copy_63 : decode cMo_copy 63 = .ok (.iaload, 1) := by decide +kernel
theorem dMo_copy_64 : decode cMo_copy 64 = .ok (.if_icmp .eq 6, 3) := by decide +kernel
theorem dMo_copy_67 : decode cMo_copy 67 = .ok (.bipush (-12), 2) := by decide +kernel
theorem dMo_copy_69 : decode cMo_copy 69 = .ok (.ireturn, 1) := by decide +kernel
theorem dMo_copy_70 : decode cMo_copy 70 = .ok (.aload_n 0, 1) := by decide +kernel
theorem dMo_copy_71 : decode cMo_copy 71 = .ok (.iload_n 1, 1) := by decide +kernel
theorem dMo_copy_72 : decode cMo_copy 72 = .ok (.iload_n 2, 1) := by decide +kernel
theorem dMo_copy_73 : decode cMo_copy 73 = .ok (.iload 5, 2) := by decide +kernel
theorem dMo_copy_75 : decode cMo_copy 75 = .ok (.invokevirtual 310, 3) := by decide +kernel
theorem dMo_copy_78 : decode cMo_copy 78 = .ok (.ifCond .eq 15, 3) := by decide +kernel
theorem dMo_copy_81 : decode cMo_copy 81 = .ok (.aload_n 0, 1) := by decide +kernel
theorem dMo_copy_82 : decode cMo_copy 82 = .ok (.iload_n 3, 1) := by decide +kernel
theorem dMo_copy_83 : decode cMo_copy 83 = .ok (.iload 4, 2) := by decide +kernel
theorem dMo_copy_85 : decode cMo_copy 85 = .ok (.iload 5, 2) := by decide +kernel
theorem dMo_copy_87 : decode cMo_copy 87 = .ok (.invokevirtual 310, 3) := by decide +kernel
theorem dMo_copy_90 : decode cMo_copy 90 = .ok (.ifCond .ne 6, 3) := by decide +kernel
theorem dMo_copy_93 : decode cMo_copy 93 = .ok (.bipush (-13), 2) := by decide +kernel
theorem dMo_copy_95 : decode cMo_copy 95 = .ok (.ireturn, 1) := by decide +kernel
theorem dMo_copy_96 : decode cMo_copy 96 = .ok (.iconst 0, 1) := by decide +kernel
theorem dMo_copy_97 : decode cMo_copy 97 = .ok (.istore 6, 2) := by decide +kernel
theorem dMo_copy_99 : decode cMo_copy 99 = .ok (.iload 6, 2) := by decide +kernel
theorem dMo_copy_101 : decode cMo_copy 101 = .ok (.iload 5, 2) := by decide +kernel
theorem dMo_copy_103 : decode cMo_copy 103 = .ok (.if_icmp .ge 30, 3) := by decide +kernel
theorem dMo_copy_106 : decode cMo_copy 106 = .ok (.aload_n 0, 1) := by decide +kernel
theorem dMo_copy_107 : decode cMo_copy 107 = .ok (.getfield 117, 3) := by decide +kernel
theorem dMo_copy_110 : decode cMo_copy 110 = .ok (.iload 6, 2) := by decide +kernel
theorem dMo_copy_112 : decode cMo_copy 112 = .ok (.aload_n 0, 1) := by decide +kernel
theorem dMo_copy_113 : decode cMo_copy 113 = .ok (.getfield 113, 3) := by decide +kernel
theorem dMo_copy_116 : decode cMo_copy 116 = .ok (.bipush 60, 2) := by decide +kernel
theorem dMo_copy_118 : decode cMo_copy 118 = .ok (.iload_n 1, 1) := by decide +kernel
theorem dMo_copy_119 : decode cMo_copy 119 = .ok (.imul, 1) := by decide +kernel
theorem dMo_copy_120 : decode cMo_copy 120 = .ok (.iload_n 2, 1) := by decide +kernel
theorem dMo_copy_121 : decode cMo_copy 121 = .ok (.iadd, 1) := by decide +kernel
theorem dMo_copy_122 : decode cMo_copy 122 = .ok (.iload 6, 2) := by decide +kernel
theorem dMo_copy_124 : decode cMo_copy 124 = .ok (.iadd, 1) := by decide +kernel
theorem dMo_copy_125 : decode cMo_copy 125 = .ok (.laload, 1) := by decide +kernel
theorem dMo_copy_126 : decode cMo_copy 126 = .ok (.lastore, 1) := by decide +kernel
theorem dMo_copy_127 : decode cMo_copy 127 = .ok (.iinc 6 1, 3) := by decide +kernel
theorem dMo_copy_130 : decode cMo_copy 130 = .ok (.goto (-31), 3) := by decide +kernel
theorem dMo_copy_133 : decode cMo_copy 133 = .ok (.iconst 0, 1) := by decide +kernel
theorem dMo_copy_134 : decode cMo_copy 134 = .ok (.istore 6, 2) := by decide +kernel
theorem dMo_copy_136 : decode cMo_copy 136 = .ok (.iload 6, 2) := by decide +kernel
theorem dMo_copy_138 : decode cMo_copy 138 = .ok (.iload 5, 2) := by decide +kernel
theorem dMo_copy_140 : decode cMo_copy 140 = .ok (.if_icmp .ge 31, 3) := by decide +kernel
theorem dMo_copy_143 : decode cMo_copy 143 = .ok (.aload_n 0, 1) := by decide +kernel
theorem dMo_copy_144 : decode cMo_copy 144 = .ok (.getfield 113, 3) := by decide +kernel
theorem dMo_copy_147 : decode cMo_copy 147 = .ok (.bipush 60, 2) := by decide +kernel
theorem dMo_copy_149 : decode cMo_copy 149 = .ok (.iload_n 3, 1) := by decide +kernel
theorem dMo_copy_150 : decode cMo_copy 150 = .ok (.imul, 1) := by decide +kernel
theorem dMo_copy_151 : decode cMo_copy 151 = .ok (.iload 4, 2) := by decide +kernel
theorem dMo_copy_153 : decode cMo_copy 153 = .ok (.iadd, 1) := by decide +kernel
theorem dMo_copy_154 : decode cMo_copy 154 = .ok (.iload 6, 2) := by decide +kernel
theorem dMo_copy_156 : decode cMo_copy 156 = .ok (.iadd, 1) := by decide +kernel
theorem dMo_copy_157 : decode cMo_copy 157 = .ok (.aload_n 0, 1) := by decide +kernel
theorem dMo_copy_158 : decode cMo_copy 158 = .ok (.getfield 117, 3) := by decide +kernel
theorem dMo_copy_161 : decode cMo_copy 161 = .ok (.iload 6, 2) := by decide +kernel
theorem dMo_copy_163 : decode cMo_copy 163 = .ok (.laload, 1) := by decide +kernel
theorem dMo_copy_164 : decode cMo_copy 164 = .ok (.lastore, 1) := by decide +kernel
theorem dMo_copy_165 : decode cMo_copy 165 = .ok (.iinc 6 1, 3) := by decide +kernel
theorem dMo_copy_168 : decode cMo_copy 168 = .ok (.goto (-32), 3) := by decide +kernel
theorem dMo_copy_171 : decode cMo_copy 171 = .ok (.iload 5, 2) := by decide +kernel
theorem dMo_copy_173 : decode cMo_copy 173 = .ok (.ireturn, 1) := by decide +kernel
theorem dMo_weight_0 : decode cMo_weight 0 = .ok (.aload_n 0, 1) := by decide +kernel
theorem dMo_weight_1 : decode cMo_weight 1 = .ok (.iconst 0, 1) := by decide +kernel
theorem dMo_weight_2 : decode cMo_weight 2 = .ok (.putfield 124, 3) := by decide +kernel
theorem dMo_weight_5 : decode cMo_weight 5 = .ok (.iload_n 1, 1) := by decide +kernel
theorem dMo_weight_6 : decode cMo_weight 6 = .ok (.invokestatic 301, 3) := by decide +kernel
theorem dMo_weight_9 : decode cMo_weight 9 = .ok (.ifCond .ne 7, 3) := by decide +kernel
theorem dMo_weight_12 : decode cMo_weight 12 = .ok (.iconst (-1), 1) := by decide +kernel
theorem dMo_weight_13 : decode cMo_weight 13 = .ok (.goto 38, 3) := by decide +kernel
theorem dMo_weight_16 : decode cMo_weight 16 = .ok (.aload_n 0, 1) := by decide +kernel
theorem dMo_weight_17 : decode cMo_weight 17 = .ok (.getfield 101, 3) := by decide +kernel
theorem dMo_weight_20 : decode cMo_weight 20 = .ok (.iload_n 1, 1) := by decide +kernel
theorem dMo_weight_21 : decode cMo_weight 21 = .ok (.iaload, 1) := by decide +kernel
theorem dMo_weight_22 : decode cMo_weight 22 = .ok (.ifCond .ne 8, 3) := by decide +kernel
theorem dMo_weight_25 : decode cMo_weight 25 = .ok (.bipush (-11), 2) := by decide +kernel
theorem dMo_weight_27 : decode cMo_weight 27 = .ok (.goto 24, 3) := by decide +kernel
theorem dMo_weight_30 : decode cMo_weight 30 = .ok (.aload_n 0, 1) := by decide +kernel
theorem dMo_weight_31 : decode cMo_weight 31 = .ok (.getfield 101, 3) := by decide +kernel
theorem dMo_weight_34 : decode cMo_weight 34 = .ok (.iload_n 1, 1) := by decide +kernel
theorem dMo_weight_35 : decode cMo_weight 35 = .ok (.iaload, 1) := by decide +kernel
theorem dMo_weight_36 : decode cMo_weight 36 = .ok (.iconst 2, 1) := by decide +kernel
theorem dMo_weight_37 : decode cMo_weight 37 = .ok (.if_icmp .le 8, 3) := by decide +kernel
theorem dMo_weight_40 : decode cMo_weight 40 = .ok (.bipush (-12), 2) := by decide +kernel
theorem dMo_weight_42 : decode cMo_weight 42 = .ok (.goto 9, 3) := by decide +kernel
theorem dMo_weight_45 : decode cMo_weight 45 = .ok (.aload_n 0, 1) := by decide +kernel
theorem dMo_weight_46 : decode cMo_weight 46 = .ok (.getfield 107, 3) := by decide +kernel
theorem dMo_weight_49 : decode cMo_weight 49 = .ok (.iload_n 1, 1) := by decide +kernel
theorem dMo_weight_50 : decode cMo_weight 50 = .ok (.iaload, 1) := by decide +kernel
theorem dMo_weight_51 : decode cMo_weight 51 = .ok (.ireturn, 1) := by decide +kernel
theorem dMo_toss_0 : decode cMo_toss 0 = .ok (.aload_n 0, 1) := by decide +kernel
theorem dMo_toss_1 : decode cMo_toss 1 = .ok (.iconst 0, 1) := by decide +kernel
theorem dMo_toss_2 : decode cMo_toss 2 = .ok (.putfield 124, 3) := by decide +kernel
theorem dMo_toss_5 : decode cMo_toss 5 = .ok (.iload_n 1, 1) := by decide +kernel
theorem dMo_toss_6 : decode cMo_toss 6 = .ok (.invokestatic 301, 3) := by decide +kernel
theorem dMo_toss_9 : decode cMo_toss 9 = .ok (.ifCond .ne 7, 3) := by decide +kernel
theorem dMo_toss_12 : decode cMo_toss 12 = .ok (.iconst (-1), 1) := by decide +kernel
theorem dMo_toss_13 : decode cMo_toss 13 = .ok (.goto 52, 3) := by decide +kernel
theorem dMo_toss_16 : decode cMo_toss 16 = .ok (.aload_n 0, 1) := by decide +kernel
theorem dMo_toss_17 : decode cMo_toss 17 = .ok (.getfield 101, 3) := by decide +kernel
theorem dMo_toss_20 : decode cMo_toss 20 = .ok (.iload_n 1, 1) := by decide +kernel
theorem dMo_toss_21 : decode cMo_toss 21 = .ok (.iaload, 1) := by decide +kernel
theorem dMo_toss_22 : decode cMo_toss 22 = .ok (.ifCond .ne 8, 3) := by decide +kernel
theorem dMo_toss_25 : decode cMo_toss 25 = .ok (.bipush (-11), 2) := by decide +kernel
theorem dMo_toss_27 : decode cMo_toss 27 = .ok (.goto 38, 3) := by decide +kernel
theorem dMo_toss_30 : decode cMo_toss 30 = .ok (.aload_n 0, 1) := by decide +kernel
theorem dMo_toss_31 : decode cMo_toss 31 = .ok (.getfield 101, 3) := by decide +kernel
theorem dMo_toss_34 : decode cMo_toss 34 = .ok (.iload_n 1, 1) := by decide +kernel
theorem dMo_toss_35 : decode cMo_toss 35 = .ok (.iaload, 1) := by decide +kernel
theorem dMo_toss_36 : decode cMo_toss 36 = .ok (.iconst 1, 1) := by decide +kernel
theorem dMo_toss_37 : decode cMo_toss 37 = .ok (.if_icmp .eq 8, 3) := by decide +kernel
theorem dMo_toss_40 : decode cMo_toss 40 = .ok (.bipush (-12), 2) := by decide +kernel
theorem dMo_toss_42 : decode cMo_toss 42 = .ok (.goto 23, 3) := by decide +kernel
theorem dMo_toss_45 : decode cMo_toss 45 = .ok (.aload_n 0, 1) := by decide +kernel
theorem dMo_toss_46 : decode cMo_toss 46 = .ok (.getfield 110, 3) := by decide +kernel
theorem dMo_toss_49 : decode cMo_toss 49 = .ok (.iload_n 1, 1) := by decide +kernel
theorem dMo_toss_50 : decode cMo_toss 50 = .ok (.iaload, 1) := by decide +kernel
theorem dMo_toss_51 : decode cMo_toss 51 = .ok (.ifCond .ne 8, 3) := by decide +kernel
theorem dMo_toss_54 : decode cMo_toss 54 = .ok (.bipush (-15), 2) := by decide +kernel
theorem dMo_toss_56 : decode cMo_toss 56 = .ok (.goto 9, 3) := by decide +kernel
theorem dMo_toss_59 : decode cMo_toss 59 = .ok (.aload_n 0, 1) := by decide +kernel
theorem dMo_toss_60 : decode cMo_toss 60 = .ok (.getfield 110, 3) := by decide +kernel
theorem dMo_toss_63 : decode cMo_toss 63 = .ok (.iload_n 1, 1) := by decide +kernel
theorem dMo_toss_64 : decode cMo_toss 64 = .ok (.iaload, 1) := by decide +kernel
theorem dMo_toss_65 : decode cMo_toss 65 = .ok (.ireturn, 1) := by decide +kernel
