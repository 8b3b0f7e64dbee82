/-! decode rows -/
theorem dTi_count_0 : decode cTi_count 0 = .ok (.iload_n 1, 1) := by decide +kernel
theorem dTi_count_1 : decode cTi_count 1 = .ok (.tableswitch 114 0 7 #[47, 55, 63, 71, 79, 87, 87, 87], 47) := by decide +kernel
theorem dTi_count_48 : decode cTi_count 48 = .ok (.aload_n 0, 1) := by decide +kernel
theorem dTi_count_49 : decode cTi_count 49 = .ok (.getfield 10, 3) := by decide +kernel
theorem dTi_count_52 : decode cTi_count 52 = .ok (.getfield 38, 3) := by decide +kernel
theorem dTi_count_55 : decode cTi_count 55 = .ok (.ireturn, 1) := by decide +kernel
theorem dTi_count_56 : decode cTi_count 56 = .ok (.aload_n 0, 1) := by decide +kernel
theorem dTi_count_57 : decode cTi_count 57 = .ok (.getfield 10, 3) := by decide +kernel
theorem dTi_count_60 : decode cTi_count 60 = .ok (.getfield 129, 3) := by decide +kernel
theorem dTi_count_63 : decode cTi_count 63 = .ok (.ireturn, 1) := by decide +kernel
theorem dTi_count_64 : decode cTi_count 64 = .ok (.aload_n 0, 1) := by decide +kernel
theorem dTi_count_65 : decode cTi_count 65 = .ok (.getfield 10, 3) := by decide +kernel
theorem dTi_count_68 : decode cTi_count 68 = .ok (.getfield 142, 3) := by decide +kernel
theorem dTi_count_71 : decode cTi_count 71 = .ok (.ireturn, 1) := by decide +kernel
theorem dTi_count_72 : decode cTi_count 72 = .ok (.aload_n 0, 1) := by decide +kernel
theorem dTi_count_73 : decode cTi_count 73 = .ok (.getfield 10, 3) := by decide +kernel
theorem dTi_count_76 : decode cTi_count 76 = .ok (.getfield 221, 3) := by decide +kernel
theorem dTi_count_79 : decode cTi_count 79 = .ok (.ireturn, 1) := by decide +kernel
theorem dTi_count_80 : decode cTi_count 80 = .ok (.aload_n 0, 1) := by decide +kernel
theorem dTi_count_81 : decode cTi_count 81 = .ok (.getfield 10, 3) := by decide +kernel
theorem dTi_count_84 : decode cTi_count 84 = .ok (.getfield 222, 3) := by decide +kernel
theorem dTi_count_87 : decode cTi_count 87 = .ok (.ireturn, 1) := by decide +kernel
theorem dTi_count_88 : decode cTi_count 88 = .ok (.aload_n 0, 1) := by decide +kernel
theorem dTi_count_89 : decode cTi_count 89 = .ok (.getfield 10, 3) := by decide +kernel
theorem dTi_count_92 : decode cTi_count 92 = .ok (.getfield 225, 3) := by decide +kernel
theorem dTi_count_95 : decode cTi_count 95 = .ok (.ifCond .eq 17, 3) := by decide +kernel
theorem dTi_count_98 : decode cTi_count 98 = .ok (.aload_n 0, 1) := by decide +kernel
theorem dTi_count_99 : decode cTi_count 99 = .ok (.getfield 10, 3) := by decide +kernel
theorem dTi_count_102 : decode cTi_count 102 = .ok (.getfield 228, 3) := by decide +kernel
theorem dTi_count_105 : decode cTi_count 105 = .ok (.iload_n 1, 1) := by decide +kernel
theorem dTi_count_106 : decode cTi_count 106 = .ok (.iconst 4, 1) := by decide +kernel
theorem dTi_count_107 : decode cTi_count 107 = .ok (.isub, 1) := by decide +kernel
theorem dTi_count_108 : decode cTi_count 108 = .ok (.iaload, 1) := by decide +kernel
theorem dTi_count_109 : decode cTi_count 109 = .ok (.goto 5, 3) := by decide +kernel
theorem dTi_count_112 : decode cTi_count 112 = .ok (.bipush (-2), 2) := by decide +kernel
theorem dTi_count_114 : decode cTi_count 114 = .ok (.ireturn, 1) := by decide +kernel
theorem dTi_count_115 : decode cTi_count 115 = .ok (.iconst (-1), 1) := by decide +kernel
theorem dTi_count_116 : decode cTi_count 116 = .ok (.ireturn, 1) := by decide +kernel
theorem dTi_keep_0 : decode cTi_keep 0 = .ok (.iload_n 1, 1) := by decide +kernel
theorem dTi_keep_1 : decode cTi_keep 1 = .ok (.invokestatic 231, 3) := by decide +kernel
theorem dTi_keep_4 : decode cTi_keep 4 = .ok (.ifCond .eq 12, 3) := by decide +kernel
theorem dTi_keep_7 : decode cTi_keep 7 = .ok (.iload_n 2, 1) := by decide +kernel
theorem dTi_keep_8 : decode cTi_keep 8 = .ok (.iconst 0, 1) := by decide +kernel
theorem dTi_keep_9 : decode cTi_keep 9 = .ok (.iconst 4, 1) := by decide +kernel
theorem dTi_keep_10 : decode cTi_keep 10 = .ok (.invokestatic 71, 3) := by decide +kernel
theorem dTi_keep_13 : decode cTi_keep 13 = .ok (.ifCond .ne 5, 3) := by decide +kernel
theorem dTi_keep_16 : decode cTi_keep 16 = .ok (.iconst (-1), 1) := by decide +kernel
theorem dTi_keep_17 : decode cTi_keep 17 = .ok (.ireturn, 1) := by decide +kernel
theorem dTi_keep_18 : decode cTi_keep 18 = .ok (.iload_n 2, 1) := by decide +kernel
theorem dTi_keep_19 : decode cTi_keep 19 = .ok (.ifCond .ne 12, 3) := by decide +kernel
theorem dTi_keep_22 : decode cTi_keep 22 = .ok (.aload_n 0, 1) := by decide +kernel
theorem dTi_keep_23 : decode cTi_keep 23 = .ok (.getfield 34, 3) := by decide +kernel
theorem dTi_keep_26 : decode cTi_keep 26 = .ok (.iload_n 1, 1) := by decide +kernel
theorem dTi_keep_27 : decode cTi_keep 27 = .ok (.aconst_null, 1) := by decide +kernel
theorem dTi_keep_28 : decode cTi_keep 28 = .ok (.aastore, 1) := by decide +kernel
theorem dTi_keep_29 : decode cTi_keep 29 = .ok (.iconst 0, 1) := by decide +kernel
theorem dTi_keep_30 : decode cTi_keep 30 = .ok (.ireturn, 1) := by decide +kernel
theorem dTi_keep_31 : decode cTi_keep 31 = .ok (.aload_n 0, 1) := by decide +kernel
theorem dTi_keep_32 : decode cTi_keep 32 = .ok (.iload_n 2, 1) := by decide +kernel
theorem dTi_keep_33 : decode cTi_keep 33 = .ok (.iload_n 3, 1) := by decide +kernel
theorem dTi_keep_34 : decode cTi_keep 34 = .ok (.iload 4, 2) := by decide +kernel
theorem dTi_keep_36 : decode cTi_keep 36 = .ok (.invokevirtual 234, 3) := by decide +kernel
theorem dTi_keep_39 : decode cTi_keep 39 = .ok (.astore 5, 2) := by decide +kernel
theorem dTi_keep_41 : decode cTi_keep 41 = .ok (.aload 5, 2) := by decide +kernel
theorem dTi_keep_43 : decode cTi_keep 43 = .ok (.ifnonnull 5, 3) := by decide +kernel
theorem dTi_keep_46 : decode cTi_keep 46 = .ok (.iconst (-1), 1) := by decide +kernel
theorem dTi_keep_47 : decode cTi_keep 47 = .ok (.ireturn, 1) := by decide +kernel
theorem dTi_keep_48 : decode cTi_keep 48 = .ok (.aload_n 0, 1) := by decide +kernel
theorem dTi_keep_49 : decode cTi_keep 49 = .ok (.getfield 34, 3) := by decide +kernel
theorem dTi_keep_52 : decode cTi_keep 52 = .ok (.iload_n 1, 1) := by decide +kernel
theorem dTi_keep_53 : decode cTi_keep 53 = .ok (.aload 5, 2) := by decide +kernel
theorem dTi_keep_55 : decode cTi_keep 55 = .ok (.aastore, 1) := by decide +kernel
theorem dTi_keep_56 : decode cTi_keep 56 = .ok (.iconst 0, 1) := by decide +kernel
theorem dTi_keep_57 : decode cTi_keep 57 = .ok (.ireturn, 1) := by decide +kernel
theorem dTi_make_0 : decode cTi_make 0 = .ok (.iload_n 1, 1) := by decide +kernel
theorem dTi_make_1 : decode cTi_make 1 = .ok (.invokestatic 231, 3) := by decide +kernel
theorem dTi_make_4 : decode cTi_make 4 = .ok (.ifCond .eq 18, 3) := by decide +kernel
theorem dTi_make_7 : decode cTi_make 7 = .ok (.iload_n 2, 1) := by decide +kernel
theorem dTi_make_8 : decode cTi_make 8 = .ok (.iconst 3, 1) := by decide +kernel
theorem dTi_make_9 : decode cTi_make 9 = .ok (.iconst 4, 1) := by decide +kernel
theorem dTi_make_10 : decode cTi_make 10 = .ok (.invokestatic 71, 3) := by decide +kernel
theorem dTi_make_13 : decode cTi_make 13 = .ok (.ifCond .eq 9, 3) := by decide +kernel
theorem dTi_make_16 : decode cTi_make 16 = .ok (.iload_n 3, 1) := by decide +kernel
theorem dTi_make_17 : decode cTi_make 17 = .ok (.bipush 60, 2) := by decide +kernel
theorem dTi_make_19 : decode cTi_make 19 = .ok (.if_icmp .le 5, 3) := by decide +kernel
theorem dTi_make_22 : decode cTi_make 22 = .ok (.iconst (-1), 1) := by decide +kernel
theorem dTi_make_23 : decode cTi_make 23 = .ok (.ireturn, 1) := by decide +kernel
theorem dTi_make_24 : decode cTi_make 24 = .ok (.iload_n 3, 1) := by decide +kernel
theorem dTi_make_25 : decode cTi_make 25 = .ok (.ifCond .ge 6, 3) := by decide +kernel
theorem dTi_make_28 : decode cTi_make 28 = .ok (.bipush (-14), 2) := by decide +kernel
theorem dTi_make_30 : decode cTi_make 30 = .ok (.ireturn, 1) := by decide +kernel
theorem dTi_make_31 : decode cTi_make 31 = .ok (.iload_n 2, 1) := by decide +kernel
theorem dTi_make_32 : decode cTi_make 32 = .ok (.iconst 3, 1) := by decide +kernel
theorem dTi_make_33 : decode cTi_make 33 = .ok (.if_icmp .ne 22, 3) := by decide +kernel
theorem dTi_make_36 : decode cTi_make 36 = .ok (.aload_n 0, 1) := by decide +kernel
theorem dTi_make_37 : decode cTi_make 37 = .ok (.getfield 34, 3) := by decide +kernel
theorem dTi_make_40 : decode cTi_make 40 = .ok (.iload_n 1, 1) := by decide +kernel
theorem dTi_make_41 : decode cTi_make 41 = .ok (.new 238, 3) := by decide +kernel
theorem dTi_make_44 : decode cTi_make 44 = .ok (.dup, 1) := by decide +kernel
theorem dTi_make_45 : decode cTi_make 45 = .ok (.iload_n 3, 1) := by decide +kernel
theorem dTi_make_46 : decode cTi_make 46 = .ok (.newarray .short, 2) := by decide +kernel
theorem dTi_make_48 : decode cTi_make 48 = .ok (.invokespecial 240, 3) := by decide +kernel
theorem dTi_make_51 : decode cTi_make 51 = .ok (.aastore, 1) := by decide +kernel
theorem dTi_make_52 : decode cTi_make 52 = .ok (.goto 19, 3) := by decide +kernel
theorem dTi_make_55 : decode cTi_make 55 = .ok (.aload_n 0, 1) := by decide +kernel
theorem dTi_make_56 : decode cTi_make 56 = .ok (.getfield 34, 3) := by decide +kernel
theorem dTi_make_59 : decode cTi_make 59 = .ok (.iload_n 1, 1) := by decide +kernel
theorem dTi_make_60 : decode cTi_make 60 = .ok (.new 243, 3) := by decide +kernel
theorem dTi_make_63 : decode cTi_make 63 = .ok (.dup, 1) := by decide +kernel
theorem dTi_make_64 : decode cTi_make 64 = .ok (.iload_n 3, 1) := by decide +kernel
theorem dTi_make_65 : decode cTi_make 65 = .ok (.newarray .long, 2) := by decide +kernel
theorem dTi_make_67 : decode cTi_make 67 = .ok (.invokespecial 245, 3) := by decide +kernel
theorem dTi_make_70 : decode cTi_make 70 = .ok (.aastore, 1) := by decide +kernel
theorem dTi_make_71 : decode cTi_make 71 = .ok (.iconst 0, 1) := by decide +kernel
theorem dTi_make_72 : decode cTi_make 72 = .ok (.ireturn, 1) := by decide +kernel
theorem dTi_element_0 : decode cTi_element 0 = .ok (.iload_n 1, 1) := by decide +kernel
theorem dTi_element_1 : decode cTi_element 1 = .ok (.invokestatic 231, 3) := by decide +kernel
theorem dTi_element_4 : decode cTi_element 4 = .ok (.ifCond .ne 13, 3) := by decide +kernel
theorem dTi_element_7 : decode cTi_element 7 = .ok (.new 151, 3) := by decide +kernel
theorem dTi_element_10 : decode cTi_element 10 = .ok (.dup, 1) := by decide +kernel
theorem dTi_element_11 : decode cTi_element 11 = .ok (.ldc 248, 2) := by decide +kernel
theorem dTi_element_13 : decode cTi_element 13 = .ok (.invokespecial 155, 3) := by decide +kernel
theorem dTi_element_16 : decode cTi_element 16 = .ok (.athrow, 1) := by decide +kernel
theorem dTi_element_17 : decode cTi_element 17 = .ok (.aload_n 0, 1) := by decide +kernel
theorem dTi_element_18 : decode cTi_element 18 = .ok (.getfield 34, 3) := by decide +kernel
theorem dTi_element_21 : decode cTi_element 21 = .ok (.iload_n 1, 1) := by decide +kernel
theorem dTi_element_22 : decode cTi_element 22 = .ok (.aaload, 1) := by decide +kernel
theorem dTi_element_23 : decode cTi_element 23 = .ok (.astore 4, 2) := by decide +kernel
theorem dTi_element_25 : decode cTi_element 25 = .ok (.aload 4, 2) := by decide +kernel
theorem dTi_element_27 : decode cTi_element 27 = .ok (.instanceof 250, 3) := by decide +kernel
theorem dTi_element_30 : decode cTi_element 30 = .ok (.ifCond .eq 27, 3) := by decide +kernel
theorem dTi_element_33 : decode cTi_element 33 = .ok (.aload 4, 2) := by decide +kernel
theorem dTi_element_35 : decode cTi_element 35 = .ok (.checkcast 250, 3) := by decide +kernel
theorem dTi_element_38 : decode cTi_element 38 = .ok (.astore_n 3, 1) := by decide +kernel
theorem dTi_element_39 : decode cTi_element 39 = .ok (.iload_n 2, 1) := by decide +kernel
theorem dTi_element_40 : decode cTi_element 40 = .ok (.ifCond .lt 17, 3) := by decide +kernel
theorem dTi_element_43 : decode cTi_element 43 = .ok (.iload_n 2, 1) := by decide +kernel
theorem dTi_element_44 : decode cTi_element 44 = .ok (.aload_n 3, 1) := by decide +kernel
theorem dTi_element_45 : decode cTi_element 45 = .ok (.invokevirtual 252, 3) := by decide +kernel
theorem dTi_element_48 : decode cTi_element 48 = .ok (.if_icmp .ge 9, 3) := by decide +kernel
theorem dTi_element_51 : decode cTi_element 51 = .ok (.aload_n 3, 1) := by decide +kernel
theorem dTi_element_52 : decode cTi_element 52 = .ok (.iload_n 2, 1) := by decide +kernel
theorem dTi_element_53 : decode cTi_element 53 = .ok (.invokevirtual 255, 3) := by decide +kernel
theorem dTi_element_56 : decode cTi_element 56 = .ok (.lreturn, 1) := by decide +kernel
theorem dTi_element_57 : decode cTi_element 57 = .ok (.new 259, 3) := by decide +kernel
theorem dTi_element_60 : decode cTi_element 60 = .ok (.dup, 1) := by decide +kernel
theorem dTi_element_61 : decode cTi_element 61 = .ok (.ldc_w 261, 3) := by decide +kernel
theorem dTi_element_64 : decode cTi_element 64 = .ok (.invokespecial 263, 3) := by decide +kernel
theorem dTi_element_67 : decode cTi_element 67 = .ok (.athrow, 1) := by decide +kernel
theorem dTi_copy_0 : decode cTi_copy 0 = .ok (.iload_n 1, 1) := by decide +kernel
theorem dTi_copy_1 : decode cTi_copy 1 = .ok (.invokestatic 231, 3) := by decide +kernel
theorem dTi_copy_4 : decode cTi_copy 4 = .ok (.ifCond .eq 10, 3) := by decide +kernel
theorem dTi_copy_7 : decode cTi_copy 7 = .ok (.iload_n 3, 1) := by decide +kernel
theorem dTi_copy_8 : decode cTi_copy 8 = .ok (.invokestatic 231, 3) := by decide +kernel
theorem dTi_copy_11 : decode cTi_copy 11 = .ok (.ifCond .ne 5, 3) := by decide +kernel
theorem dTi_copy_14 : decode cTi_copy 14 = .ok (.iconst (-1), 1) := by decide +kernel
theorem dTi_copy_15 : decode cTi_copy 15 = .ok (.ireturn, 1) := by decide +kernel
theorem dTi_copy_16 : decode cTi_copy 16 = .ok (.aload_n 0, 1) := by decide +kernel
theorem dTi_copy_17 : decode cTi_copy 17 = .ok (.getfield 34, 3) := by decide +kernel
theorem dTi_copy_20 : decode cTi_copy 20 = .ok (.iload_n 1, 1) := by decide +kernel
theorem dTi_copy_21 : decode cTi_copy 21 = .ok (.aaload, 1) := by decide +kernel
theorem dTi_copy_22 : decode cTi_copy 22 = .ok (.ifnull 12, 3) := by decide +kernel
theorem dTi_copy_25 : decode cTi_copy 25 = .ok (.aload_n 0, 1) := by decide +kernel
theorem dTi_copy_26 : decode cTi_copy 26 = .ok (.getfield 34, 3) := by decide +kernel
theorem dTi_copy_29 : decode cTi_copy 29 = .ok (.iload_n 3, 1) := by decide +kernel
theorem dTi_copy_30 : decode cTi_copy 30 = .ok (.aaload, 1) := by decide +kernel
theorem dTi_copy_31 : decode cTi_copy 31 = .ok (.ifnonnull 6, 3) := by decide +kernel
theorem dTi_copy_34 : decode cTi_copy 34 = .ok (.bipush (-11), 2) := by decide +kernel
theorem dTi_copy_36 : decode cTi_copy 36 = .ok (.ireturn, 1) := by decide +kernel
theorem dTi_copy_37 : decode cTi_copy 37 = .ok (.aload_n 0, 1) := by decide +kernel
theorem dTi_copy_38 : decode cTi_copy 38 = .ok (.getfield 34, 3) := by decide +kernel
theorem dTi_copy_41 : decode cTi_copy 41 = .ok (.iload_n 1, 1) := by decide +kernel
theorem dTi_copy_42 : decode cTi_copy 42 = .ok (.aaload, 1) := by decide +kernel
theorem dTi_copy_43 : decode cTi_copy 43 = .ok (.astore 7, 2) := by decide +kernel
theorem dTi_copy_45 : decode cTi_copy 45 = .ok (.aload 7, 2) := by decide +kernel
theorem dTi_copy_47 : decode cTi_copy 47 = .ok (.instanceof 250, 3) := by decide +kernel
theorem dTi_copy_50 : decode cTi_copy 50 = .ok (.ifCond .eq 46, 3) := by decide +kernel
theorem dTi_copy_53 : decode cTi_copy 53 = .ok (.aload 7, 2) := by decide +kernel
theorem dTi_copy_55 : decode cTi_copy 55 = .ok (.checkcast 250, 3) := by decide +kernel
theorem dTi_copy_58 : decode cTi_copy 58 = .ok (.astore 6, 2) := by decide +kernel
theorem dTi_copy_60 : decode cTi_copy 60 = .ok (.aload_n 0, 1) := by decide +kernel
theorem dTi_copy_61 : decode cTi_copy 61 = .ok (.getfield 34, 3) := by decide +kernel
theorem dTi_copy_64 : decode cTi_copy 64 = .ok (.iload_n 3, 1) := by decide +kernel
theorem dTi_copy_65 : decode cTi_copy 65 = .ok (.aaload, 1) := by decide +kernel
theorem dTi_copy_66 : decode cTi_copy 66 = .ok (.astore 8, 2) := by decide +kernel
theorem dTi_copy_68 : decode cTi_copy 68 = .ok (.aload 8, 2) := by decide +kernel
theorem dTi_copy_70 : decode cTi_copy 70 = .ok (.instanceof 250, 3) := by decide +kernel
theorem dTi_copy_73 : decode cTi_copy 73 = .ok (.ifCond .eq 23, 3) := by decide +kernel
theorem dTi_copy_76 : decode cTi_copy 76 = .ok (.aload 8, 2) := by decide +kernel
theorem dTi_copy_78 : decode cTi_copy 78 = .ok (.checkcast 250, 3) := by decide +kernel
theorem dTi_copy_81 : decode cTi_copy 81 = .ok (.astore 7, 2) := by decide +kernel
theorem dTi_copy_83 : decode cTi_copy 83 = .ok (.aload 6, 2) := by decide +kernel
theorem dTi_copy_85 : decode cTi_copy 85 = .ok (.iload_n 2, 1) := by decide +kernel
theorem dTi_copy_86 : decode cTi_copy 86 = .ok (.aload 7, 2) := by decide +kernel
theorem dTi_copy_88 : decode cTi_copy 88 = .ok (.iload 4, 2) := by decide +kernel
theorem dTi_copy_90 : decode cTi_copy 90 = .ok (.iload 5, 2) := by decide +kernel
theorem dTi_copy_92 : decode cTi_copy 92 = .ok (.invokestatic 264, 3) := by decide +kernel
theorem dTi_copy_95 : decode cTi_copy 95 = .ok (.ireturn, 1) := by decide +kernel
theorem dTi_copy_96 : decode cTi_copy 96 = .ok (.bipush (-12), 2) := by decide +kernel
theorem dTi_copy_98 : decode cTi_copy 98 = .ok (.ireturn, 1) := by decide +kernel
theorem dTi_weight_0 : decode cTi_weight 0 = .ok (.iload_n 1, 1) := by decide +kernel
theorem dTi_weight_1 : decode cTi_weight 1 = .ok (.invokestatic 231, 3) := by decide +kernel
theorem dTi_weight_4 : decode cTi_weight 4 = .ok (.ifCond .ne 5, 3) := by decide +kernel
theorem dTi_weight_7 : decode cTi_weight 7 = .ok (.iconst (-1), 1) := by decide +kernel
theorem dTi_weight_8 : decode cTi_weight 8 = .ok (.ireturn, 1) := by decide +kernel
theorem dTi_weight_9 : decode cTi_weight 9 = .ok (.aload_n 0, 1) := by decide +kernel
theorem dTi_weight_10 : decode cTi_weight 10 = .ok (.getfield 34, 3) := by decide +kernel
theorem dTi_weight_13 : decode cTi_weight 13 = .ok (.iload_n 1, 1) := by decide +kernel
theorem dTi_weight_14 : decode cTi_weight 14 = .ok (.aaload, 1) := by decide +kernel
theorem dTi_weight_15 : decode cTi_weight 15 = .ok (.astore_n 2, 1) := by decide +kernel
theorem dTi_weight_16 : decode cTi_weight 16 = .ok (.aload_n 2, 1) := by decide +kernel
theorem dTi_weight_17 : decode cTi_weight 17 = .ok (.ifnonnull 8, 3) := by decide +kernel
theorem dTi_weight_20 : decode cTi_weight 20 = .ok (.bipush (-11), 2) := by decide +kernel
theorem dTi_weight_22 : decode cTi_weight 22 = .ok (.goto 7, 3) := by decide +kernel
theorem dTi_weight_25 : decode cTi_weight 25 = .ok (.aload_n 2, 1) := by decide +kernel
theorem dTi_weight_26 : decode cTi_weight 26 = .ok (.invokevirtual 268, 3) := by decide +kernel
theorem dTi_weight_29 : decode cTi_weight 29 = .ok (.ireturn, 1) := by decide +kernel
theorem dTi_toss_0 : decode cTi_toss 0 = .ok (.iload_n 1, 1) := by decide +kernel
theorem dTi_toss_1 : decode cTi_toss 1 = .ok (.invokestatic 231, 3) := by decide +kernel
theorem dTi_toss_4 : decode cTi_toss 4 = .ok (.ifCond .ne 5, 3) := by decide +kernel
theorem dTi_toss_7 : decode cTi_toss 7 = .ok (.iconst (-1), 1) := by decide +kernel
theorem dTi_toss_8 : decode cTi_toss 8 = .ok (.ireturn, 1) := by decide +kernel
theorem dTi_toss_9 : decode cTi_toss 9 = .ok (.aload_n 0, 1) := by decide +kernel
theorem dTi_toss_10 : decode cTi_toss 10 = .ok (.getfield 34, 3) := by decide +kernel
theorem dTi_toss_13 : decode cTi_toss 13 = .ok (.iload_n 1, 1) := by decide +kernel
theorem dTi_toss_14 : decode cTi_toss 14 = .ok (.aaload, 1) := by decide +kernel
theorem dTi_toss_15 : decode cTi_toss 15 = .ok (.ifnonnull 6, 3) := by decide +kernel
theorem dTi_toss_18 : decode cTi_toss 18 = .ok (.bipush (-11), 2) := by decide +kernel
theorem dTi_toss_20 : decode cTi_toss 20 = .ok (.ireturn, 1) := by decide +kernel
theorem dTi_toss_21 : decode cTi_toss 21 = .ok (.aload_n 0, 1) := by decide +kernel
theorem dTi_toss_22 : decode cTi_toss 22 = .ok (.getfield 34, 3) := by decide +kernel
theorem dTi_toss_25 : decode cTi_toss 25 = .ok (.iload_n 1, 1) := by decide +kernel
theorem dTi_toss_26 : decode cTi_toss 26 = .ok (.aaload, 1) := by decide +kernel
theorem dTi_toss_27 : decode cTi_toss 27 = .ok (.astore_n 3, 1) := by decide +kernel
theorem dTi_toss_28 : decode cTi_toss 28 = .ok (.aload_n 3, 1) := by decide +kernel
theorem dTi_toss_29 : decode cTi_toss 29 = .ok (.instanceof 95, 3) := by decide +kernel
theorem dTi_toss_32 : decode cTi_toss 32 = .ok (.ifCond .eq 13, 3) := by decide +kernel
theorem dTi_toss_35 : decode cTi_toss 35 = .ok (.aload_n 3, 1) := by decide +kernel
theorem dTi_toss_36 : decode cTi_toss 36 = .ok (.checkcast 95, 3) := by decide +kernel
theorem dTi_toss_39 : decode cTi_toss 39 = .ok (.astore_n 2, 1) := by decide +kernel
theorem dTi_toss_40 : decode cTi_toss 40 = .ok (.aload_n 2, 1) := by decide +kernel
theorem dTi_toss_41 : decode cTi_toss 41 = .ok (.invokestatic 271, 3) := by decide +kernel
theorem dTi_toss_44 : decode cTi_toss 44 = .ok (.ireturn, 1) := by decide +kernel
theorem dTi_toss_45 : decode cTi_toss 45 = .ok (.bipush (-12), 2) := by decide +kernel
theorem dTi_toss_47 : decode cTi_toss 47 = .ok (.ireturn, 1) := by decide +kernel
theorem dTi_isBetween_0 : decode cTi_isBetween 0 = .ok (.iload_n 0, 1) := by decide +kernel
theorem dTi_isBetween_1 : decode cTi_isBetween 1 = .ok (.iload_n 1, 1) := by decide +kernel
theorem dTi_isBetween_2 : decode cTi_isBetween 2 = .ok (.if_icmp .lt 12, 3) := by decide +kernel
theorem dTi_isBetween_5 : decode cTi_isBetween 5 = .ok (.iload_n 0, 1) := by decide +kernel
theorem dTi_isBetween_6 : decode cTi_isBetween 6 = .ok (.iload_n 2, 1) := by decide +kernel
theorem dTi_isBetween_7 : decode cTi_isBetween 7 = .ok (.if_icmp .gt 7, 3) := by decide +kernel
theorem dTi_isBetween_10 : decode cTi_isBetween 10 = .ok (.iconst 1, 1) := by decide +kernel
theorem dTi_isBetween_11 : decode cTi_isBetween 11 = .ok (.goto 4, 3) := by decide +kernel
theorem dTi_isBetween_14 : decode cTi_isBetween 14 = .ok (.iconst 0, 1) := by decide +kernel
theorem dTi_isBetween_15 : decode cTi_isBetween 15 = .ok (.ireturn, 1) := by decide +kernel
theorem dTi_isClock_0 : decode cTi_isClock 0 = .ok (.iload_n 0, 1) := by decide +kernel
theorem dTi_isClock_1 : decode cTi_isClock 1 = .ok (.ifCond .lt 12, 3) := by decide +kernel
theorem dTi_isClock_4 : decode cTi_isClock 4 = .ok (.iload_n 0, 1) := by decide +kernel
theorem dTi_isClock_5 : decode cTi_isClock 5 = .ok (.iconst 4, 1) := by decide +kernel
theorem dTi_isClock_6 : decode cTi_isClock 6 = .ok (.if_icmp .ge 7, 3) := by decide +kernel
theorem dTi_isClock_9 : decode cTi_isClock 9 = .ok (.iconst 1, 1) := by decide +kernel
theorem dTi_isClock_10 : decode cTi_isClock 10 = .ok (.goto 4, 3) := by decide +kernel
theorem dTi_isClock_13 : decode cTi_isClock 13 = .ok (.iconst 0, 1) := by decide +kernel
theorem dTi_isClock_14 : decode cTi_isClock 14 = .ok (.ireturn, 1) := by decide +kernel
theorem dTi_isPair_0 : decode cTi_isPair 0 = .ok (.iload_n 0, 1) := by decide +kernel
theorem dTi_isPair_1 : decode cTi_isPair 1 = .ok (.ifCond .lt 22, 3) := by decide +kernel
theorem dTi_isPair_4 : decode cTi_isPair 4 = .ok (.iload_n 0, 1) := by decide +kernel
theorem dTi_isPair_5 : decode cTi_isPair 5 = .ok (.bipush 16, 2) := by decide +kernel
theorem dTi_isPair_7 : decode cTi_isPair 7 = .ok (.if_icmp .ge 16, 3) := by decide +kernel
theorem dTi_isPair_10 : decode cTi_isPair 10 = .ok (.iload_n 0, 1) := by decide +kernel
theorem dTi_isPair_11 : decode cTi_isPair 11 = .ok (.iconst 4, 1) := by decide +kernel
theorem dTi_isPair_12 : decode cTi_isPair 12 = .ok (.idiv, 1) := by decide +kernel
theorem dTi_isPair_13 : decode cTi_isPair 13 = .ok (.iload_n 0, 1) := by decide +kernel
theorem dTi_isPair_14 : decode cTi_isPair 14 = .ok (.iconst 4, 1) := by decide +kernel
theorem dTi_isPair_15 : decode cTi_isPair 15 = .ok (.irem, 1) := by decide +kernel
theorem dTi_isPair_16 : decode cTi_isPair 16 = .ok (.if_icmp .eq 7, 3) := by decide +kernel
theorem dTi_isPair_19 : decode cTi_isPair 19 = .ok (.iconst 1, 1) := by decide +kernel
theorem dTi_isPair_20 : decode cTi_isPair 20 = .ok (.goto 4, 3) := by decide +kernel
theorem dTi_isPair_23 : decode cTi_isPair 23 = .ok (.iconst 0, 1) := by decide +kernel
theorem dTi_isPair_24 : decode cTi_isPair 24 = .ok (.ireturn, 1) := by decide +kernel
theorem dTi_isShelf_0 : decode cTi_isShelf 0 = .ok (.iload_n 0, 1) := by decide +kernel
theorem dTi_isShelf_1 : decode cTi_isShelf 1 = .ok (.ifCond .lt 13, 3) := by decide +kernel
theorem dTi_isShelf_4 : decode cTi_isShelf 4 = .ok (.iload_n 0, 1) := by decide +kernel
theorem dTi_isShelf_5 : decode cTi_isShelf 5 = .ok (.bipush 8, 2) := by decide +kernel
theorem dTi_isShelf_7 : decode cTi_isShelf 7 = .ok (.if_icmp .ge 7, 3) := by decide +kernel
theorem dTi_isShelf_10 : decode cTi_isShelf 10 = .ok (.iconst 1, 1) := by decide +kernel
theorem dTi_isShelf_11 : decode cTi_isShelf 11 = .ok (.goto 4, 3) := by decide +kernel
theorem dTi_isShelf_14 : decode cTi_isShelf 14 = .ok (.iconst 0, 1) := by decide +kernel
theorem dTi_isShelf_15 : decode cTi_isShelf 15 = .ok (.ireturn, 1) := by decide +kernel
theorem dTi_handEmpty_0 : decode cTi_handEmpty 0 = .ok (.aload_n 0, 1) := by decide +kernel
theorem dTi_handEmpty_1 : decode cTi_handEmpty 1 = .ok (.getfield 21, 3) := by decide +kernel
theorem dTi_handEmpty_4 : decode cTi_handEmpty 4 = .ok (.getfield 186, 3) := by decide +kernel
theorem dTi_handEmpty_7 : decode cTi_handEmpty 7 = .ok (.ifCond .eq 7, 3) := by decide +kernel
theorem dTi_handEmpty_10 : decode cTi_handEmpty 10 = .ok (.iconst 1, 1) := by decide +kernel
theorem dTi_handEmpty_11 : decode cTi_handEmpty 11 = .ok (.goto 4, 3) := by decide +kernel
theorem dTi_handEmpty_14 : decode cTi_handEmpty 14 = .ok (.iconst 0, 1) := by decide +kernel
theorem dTi_handEmpty_15 : decode cTi_handEmpty 15 = .ok (.ireturn, 1) := by decide +kernel
theorem dTi_heldOf_0 : decode cTi_heldOf 0 = .ok (.iload_n 1, 1) := by decide +kernel
theorem dTi_heldOf_1 : decode cTi_heldOf 1 = .ok (.tableswitch 98 1 3 #[27, 53, 79], 27) := by decide +kernel
theorem dTi_heldOf_28 : decode cTi_heldOf 28 = .ok (.aload_n 0, 1) := by decide +kernel
theorem dTi_heldOf_29 : decode cTi_heldOf 29 = .ok (.getfield 10, 3) := by decide +kernel
theorem dTi_heldOf_32 : decode cTi_heldOf 32 = .ok (.iload_n 2, 1) := by decide +kernel
theorem dTi_heldOf_33 : decode cTi_heldOf 33 = .ok (.iload_n 3, 1) := by decide +kernel
theorem dTi_heldOf_34 : decode cTi_heldOf 34 = .ok (.invokevirtual 100, 3) := by decide +kernel
theorem dTi_heldOf_37 : decode cTi_heldOf 37 = .ok (.astore 4, 2) := by decide +kernel
theorem dTi_heldOf_39 : decode cTi_heldOf 39 = .ok (.aload 4, 2) := by decide +kernel
theorem dTi_heldOf_41 : decode cTi_heldOf 41 = .ok (.ifnonnull 7, 3) := by decide +kernel
theorem dTi_heldOf_44 : decode cTi_heldOf 44 = .ok (.aconst_null, 1) := by decide +kernel
theorem dTi_heldOf_45 : decode cTi_heldOf 45 = .ok (.goto 8, 3) := by decide +kernel
theorem dTi_heldOf_48 : decode cTi_heldOf 48 = .ok (.aload 4, 2) := by decide +kernel
theorem dTi_heldOf_50 : decode cTi_heldOf 50 = .ok (.invokevirtual 275, 3) := by decide +kernel
theorem dTi_heldOf_53 : decode cTi_heldOf 53 = .ok (.areturn, 1) := by decide +kernel
theorem dTi_heldOf_54 : decode cTi_heldOf 54 = .ok (.aload_n 0, 1) := by decide +kernel
theorem dTi_heldOf_55 : decode cTi_heldOf 55 = .ok (.getfield 10, 3) := by decide +kernel
theorem dTi_heldOf_58 : decode cTi_heldOf 58 = .ok (.iload_n 2, 1) := by decide +kernel
theorem dTi_heldOf_59 : decode cTi_heldOf 59 = .ok (.iload_n 3, 1) := by decide +kernel
theorem dTi_heldOf_60 : decode cTi_heldOf 60 = .ok (.invokevirtual 63, 3) := by decide +kernel
theorem dTi_heldOf_63 : decode cTi_heldOf 63 = .ok (.astore 5, 2) := by decide +kernel
theorem dTi_heldOf_65 : decode cTi_heldOf 65 = .ok (.aload 5, 2) := by decide +kernel
theorem dTi_heldOf_67 : decode cTi_heldOf 67 = .ok (.ifnonnull 7, 3) := by decide +kernel
theorem dTi_heldOf_70 : decode cTi_heldOf 70 = .ok (.aconst_null, 1) := by decide +kernel
theorem dTi_heldOf_71 : decode cTi_heldOf 71 = .ok (.goto 8, 3) := by decide +kernel
theorem dTi_heldOf_74 : decode cTi_heldOf 74 = .ok (.aload 5, 2) := by decide +kernel
theorem dTi_heldOf_76 : decode cTi_heldOf 76 = .ok (.invokevirtual 279, 3) := by decide +kernel
theorem dTi_heldOf_79 : decode cTi_heldOf 79 = .ok (.areturn, 1) := by decide +kernel
theorem dTi_heldOf_80 : decode cTi_heldOf 80 = .ok (.aload_n 0, 1) := by decide +kernel
theorem dTi_heldOf_81 : decode cTi_heldOf 81 = .ok (.getfield 10, 3) := by decide +kernel
theorem dTi_heldOf_84 : decode cTi_heldOf 84 = .ok (.getfield 282, 3) := by decide +kernel
theorem dTi_heldOf_87 : decode cTi_heldOf 87 = .ok (.ifCond .eq 10, 3) := by decide +kernel
theorem dTi_heldOf_90 : decode cTi_heldOf 90 = .ok (.aload_n 0, 1) := by decide +kernel
theorem dTi_heldOf_91 : decode cTi_heldOf 91 = .ok (.invokevirtual 285, 3) := by decide +kernel
theorem dTi_heldOf_94 : decode cTi_heldOf 94 = .ok (.goto 4, 3) := by decide +kernel
theorem dTi_heldOf_97 : decode cTi_heldOf 97 = .ok (.aconst_null, 1) := by decide +kernel
theorem dTi_heldOf_98 : decode cTi_heldOf 98 = .ok (.areturn, 1) := by decide +kernel
theorem dTi_heldOf_99 : decode cTi_heldOf 99 = .ok (.aload_n 0, 1) := by decide +kernel
theorem dTi_heldOf_100 : decode cTi_heldOf 100 = .ok (.getfield 10, 3) := by decide +kernel
theorem dTi_heldOf_103 : decode cTi_heldOf 103 = .ok (.iload_n 3, 1) := by decide +kernel
theorem dTi_heldOf_104 : decode cTi_heldOf 104 = .ok (.invokevirtual 121, 3) := by decide +kernel
theorem dTi_heldOf_107 : decode cTi_heldOf 107 = .ok (.astore 6, 2) := by decide +kernel
theorem dTi_heldOf_109 : decode cTi_heldOf 109 = .ok (.aload 6, 2) := by decide +kernel
theorem dTi_heldOf_111 : decode cTi_heldOf 111 = .ok (.ifnonnull 7, 3) := by decide +kernel
theorem dTi_heldOf_114 : decode cTi_heldOf 114 = .ok (.aconst_null, 1) := by decide +kernel
theorem dTi_heldOf_115 : decode cTi_heldOf 115 = .ok (.goto 11, 3) := by decide +kernel
theorem dTi_heldOf_118 : decode cTi_heldOf 118 = .ok (.aload 6, 2) := by decide +kernel
theorem dTi_heldOf_120 : decode cTi_heldOf 120 = .ok (.getfield 158, 3) := by decide +kernel
theorem dTi_heldOf_123 : decode cTi_heldOf 123 = .ok (.invokestatic 289, 3) := by decide +kernel
theorem dTi_heldOf_126 : decode cTi_heldOf 126 = .ok (.areturn, 1) := by decide +kernel
theorem dTi_rowOfPlaces_0 : decode cTi_rowOfPlaces 0 = .ok (.aload_n 0, 1) := by decide +kernel
theorem dTi_rowOfPlaces_1 : decode cTi_rowOfPlaces 1 = .ok (.getfield 10, 3) := by decide +kernel
theorem dTi_rowOfPlaces_4 : decode cTi_rowOfPlaces 4 = .ok (.getfield 129, 3) := by decide +kernel
theorem dTi_rowOfPlaces_7 : decode cTi_rowOfPlaces 7 = .ok (.bipush 60, 2) := by decide +kernel
theorem dTi_rowOfPlaces_9 : decode cTi_rowOfPlaces 9 = .ok (.invokestatic 293, 3) := by decide +kernel
theorem dTi_rowOfPlaces_12 : decode cTi_rowOfPlaces 12 = .ok (.istore_n 1, 1) := by decide +kernel
theorem dTi_rowOfPlaces_13 : decode cTi_rowOfPlaces 13 = .ok (.iload_n 1, 1) := by decide +kernel
theorem dTi_rowOfPlaces_14 : decode cTi_rowOfPlaces 14 = .ok (.iconst 0, 1) := by decide +kernel
theorem dTi_rowOfPlaces_15 : decode cTi_rowOfPlaces 15 = .ok (.invokestatic 298, 3) := by decide +kernel
theorem dTi_rowOfPlaces_18 : decode cTi_rowOfPlaces 18 = .ok (.newarray .short, 2) := by decide +kernel
theorem dTi_rowOfPlaces_20 : decode cTi_rowOfPlaces 20 = .ok (.astore_n 2, 1) := by decide +kernel
theorem dTi_rowOfPlaces_21 : decode cTi_rowOfPlaces 21 = .ok (.iconst 0, 1) := by decide +kernel
theorem dTi_rowOfPlaces_22 : decode cTi_rowOfPlaces 22 = .ok (.istore_n 3, 1) := by decide +kernel
theorem dTi_rowOfPlaces_23 : decode cTi_rowOfPlaces 23 = .ok (.iload_n 3, 1) := by decide +kernel
theorem dTi_rowOfPlaces_24 : decode cTi_rowOfPlaces 24 = .ok (.aload_n 2, 1) := by decide +kernel
theorem dTi_rowOfPlaces_25 : decode cTi_rowOfPlaces 25 = .ok (.arraylength, 1) := by decide +kernel
theorem dTi_rowOfPlaces_26 : decode cTi_rowOfPlaces 26 = .ok (.if_icmp .ge 39, 3) := by decide +kernel
theorem dTi_rowOfPlaces_29 : decode cTi_rowOfPlaces 29 = .ok (.aload_n 0, 1) := by decide +kernel
theorem dTi_rowOfPlaces_30 : decode cTi_rowOfPlaces 30 = .ok (.getfield 10, 3) := by decide +kernel
theorem dTi_rowOfPlaces_33 : decode cTi_rowOfPlaces 33 = .ok (.iload_n 3, 1) := by decide +kernel
theorem dTi_rowOfPlaces_34 : decode cTi_rowOfPlaces 34 = .ok (.invokevirtual 121, 3) := by decide +kernel
theorem dTi_rowOfPlaces_37 : decode cTi_rowOfPlaces 37 = .ok (.astore 4, 2) := by decide +kernel
theorem dTi_rowOfPlaces_39 : decode cTi_rowOfPlaces 39 = .ok (.aload_n 2, 1) := by decide +kernel
theorem dTi_rowOfPlaces_40 : decode cTi_rowOfPlaces 40 = .ok (.iload_n 3, 1) := by decide +kernel
theorem dTi_rowOfPlaces_41 : decode cTi_rowOfPlaces 41 = .ok (.aload 4, 2) := by decide +kernel
theorem dTi_rowOfPlaces_43 : decode cTi_rowOfPlaces 43 = .ok (.ifnonnull 7, 3) := by decide +kernel
theorem dTi_rowOfPlaces_46 : decode cTi_rowOfPlaces 46 = .ok (.iconst 0, 1) := by decide +kernel
theorem dTi_rowOfPlaces_47 : decode cTi_rowOfPlaces 47 = .ok (.goto 11, 3) := by decide +kernel
theorem dTi_rowOfPlaces_50 : decode cTi_rowOfPlaces 50 = .ok (.aload 4, 2) := by decide +kernel
theorem dTi_rowOfPlaces_52 : decode cTi_rowOfPlaces 52 = .ok (.getfield 132, 3) := by decide +kernel
theorem dTi_rowOfPlaces_55 : decode cTi_rowOfPlaces 55 = .ok (.iconst 0, 1) := by decide +kernel
theorem dTi_rowOfPlaces_56 : decode cTi_rowOfPlaces 56 = .ok (.iaload, 1) := by decide +kernel
theorem dTi_rowOfPlaces_57 : decode cTi_rowOfPlaces 57 = .ok (.i2s, 1) := by decide +kernel
theorem dTi_rowOfPlaces_58 : decode cTi_rowOfPlaces 58 = .ok (.sastore, 1) := by decide +kernel
theorem dTi_rowOfPlaces_59 : decode cTi_rowOfPlaces 59 = .ok (.iinc 3 1, 3) := by decide +kernel
theorem dTi_rowOfPlaces_62 : decode cTi_rowOfPlaces 62 = .ok (.goto (-39), 3) := by decide +kernel
theorem dTi_rowOfPlaces_65 : decode cTi_rowOfPlaces 65 = .ok (.new 238, 3) := by decide +kernel
theorem dTi_rowOfPlaces_68 : decode cTi_rowOfPlaces 68 = .ok (.dup, 1) := by decide +kernel
theorem dTi_rowOfPlaces_69 : decode cTi_rowOfPlaces 69 = .ok (.aload_n 2, 1) := by decide +kernel
theorem dTi_rowOfPlaces_70 : decode cTi_rowOfPlaces 70 = .ok (.invokespecial 240, 3) := by decide +kernel
theorem dTi_rowOfPlaces_73 : decode cTi_rowOfPlaces 73 = .ok (.areturn, 1) := by decide +kernel
theorem dTi_rowOfBounds_0 : decode cTi_rowOfBounds 0 = .ok (.bipush 16, 2) := by decide +kernel
theorem dTi_rowOfBounds_2 : decode cTi_rowOfBounds 2 = .ok (.newarray .long, 2) := by decide +kernel
theorem dTi_rowOfBounds_4 : decode cTi_rowOfBounds 4 = .ok (.astore_n 1, 1) := by decide +kernel
theorem dTi_rowOfBounds_5 : decode cTi_rowOfBounds 5 = .ok (.iconst 0, 1) := by decide +kernel
theorem dTi_rowOfBounds_6 : decode cTi_rowOfBounds 6 = .ok (.istore_n 2, 1) := by decide +kernel
theorem dTi_rowOfBounds_7 : decode cTi_rowOfBounds 7 = .ok (.iload_n 2, 1) := by decide +kernel
theorem dTi_rowOfBounds_8 : decode cTi_rowOfBounds 8 = .ok (.aload_n 1, 1) := by decide +kernel
theorem dTi_rowOfBounds_9 : decode cTi_rowOfBounds 9 = .ok (.arraylength, 1) := by decide +kernel
theorem dTi_rowOfBounds_10 : decode cTi_rowOfBounds 10 = .ok (.if_icmp .ge 23, 3) := by decide +kernel
theorem dTi_rowOfBounds_13 : decode cTi_rowOfBounds 13 = .ok (.aload_n 1, 1) := by decide +kernel
theorem dTi_rowOfBounds_14 : decode cTi_rowOfBounds 14 = .ok (.iload_n 2, 1) := by decide +kernel
theorem dTi_rowOfBounds_15 : decode cTi_rowOfBounds 15 = .ok (.aload_n 0, 1) := by decide +kernel
theorem dTi_rowOfBounds_16 : decode cTi_rowOfBounds 16 = .ok (.iload_n 2, 1) := by decide +kernel
theorem dTi_rowOfBounds_17 : decode cTi_rowOfBounds 17 = .ok (.iconst 4, 1) := by decide +kernel
theorem dTi_rowOfBounds_18 : decode cTi_rowOfBounds 18 = .ok (.idiv, 1) := by decide +kernel
theorem dTi_rowOfBounds_19 : decode cTi_rowOfBounds 19 = .ok (.iload_n 2, 1) := by decide +kernel
theorem dTi_rowOfBounds_20 : decode cTi_rowOfBounds 20 = .ok (.iconst 4, 1) := by decide +kernel
theorem dTi_rowOfBounds_21 : decode cTi_rowOfBounds 21 = .ok (.irem, 1) := by decide +kernel
theorem dTi_rowOfBounds_22 : decode cTi_rowOfBounds 22 = .ok (.invokevirtual 161, 3) := by decide +kernel
theorem dTi_rowOfBounds_25 : decode cTi_rowOfBounds 25 = .ok (.i2l, 1) := by decide +kernel
theorem dTi_rowOfBounds_26 : decode cTi_rowOfBounds 26 = .ok (.lastore, 1) := by decide +kernel
theorem dTi_rowOfBounds_27 : decode cTi_rowOfBounds 27 = .ok (.iinc 2 1, 3) := by decide +kernel
theorem dTi_rowOfBounds_30 : decode cTi_rowOfBounds 30 = .ok (.goto (-23), 3) := by decide +kernel
theorem dTi_rowOfBounds_33 : decode cTi_rowOfBounds 33 = .ok (.new 243, 3) := by decide +kernel
theorem dTi_rowOfBounds_36 : decode cTi_rowOfBounds 36 = .ok (.dup, 1) := by decide +kernel
theorem dTi_rowOfBounds_37 : decode cTi_rowOfBounds 37 = .ok (.aload_n 1, 1) := by decide +kernel
theorem dTi_rowOfBounds_38 : decode cTi_rowOfBounds 38 = .ok (.invokespecial 245, 3) := by decide +kernel
theorem dTi_rowOfBounds_41 : decode cTi_rowOfBounds 41 = .ok (.areturn, 1) := by decide +kernel
theorem dTi_copied_0 : decode cTi_copied 0 = .ok (.aload_n 0, 1) := by decide +kernel
theorem dTi_copied_1 : decode cTi_copied 1 = .ok (.aload_n 2, 1) := by decide +kernel
theorem dTi_copied_2 : decode cTi_copied 2 = .ok (.invokevirtual 301, 3) := by decide +kernel
theorem dTi_copied_5 : decode cTi_copied 5 = .ok (.ifCond .ne 6, 3) := by decide +kernel
theorem dTi_copied_8 : decode cTi_copied 8 = .ok (.bipush (-12), 2) := by decide +kernel
theorem dTi_copied_10 : decode cTi_copied 10 = .ok (.ireturn, 1) := by decide +kernel
theorem dTi_copied_11 : decode cTi_copied 11 = .ok (.iload 4, 2) := by decide +kernel
theorem dTi_copied_13 : decode cTi_copied 13 = .ok (.ifCond .lt 33, 3) := by decide +kernel
theorem dTi_copied_16 : decode cTi_copied 16 = .ok (.iload_n 1, 1) := by decide +kernel
theorem dTi_copied_17 : decode cTi_copied 17 = .ok (.ifCond .lt 29, 3) := by decide +kernel
theorem dTi_copied_20 : decode cTi_copied 20 = .ok (.iload_n 3, 1) := by decide +kernel
theorem dTi_copied_21 : decode cTi_copied 21 = .ok (.ifCond .lt 25, 3) := by decide +kernel
theorem dTi_copied_24 : decode cTi_copied 24 = .ok (.iload_n 1, 1) := by decide +kernel
theorem dTi_copied_25 : decode cTi_copied 25 = .ok (.aload_n 0, 1) := by decide +kernel
theorem dTi_copied_26 : decode cTi_copied 26 = .ok (.invokevirtual 252, 3) := by decide +kernel
theorem dTi_copied_29 : decode cTi_copied 29 = .ok (.iload 4, 2) := by decide +kernel
theorem dTi_copied_31 : decode cTi_copied 31 = .ok (.isub, 1) := by decide +kernel
theorem dTi_copied_32 : decode cTi_copied 32 = .ok (.if_icmp .gt 14, 3) := by decide +kernel
theorem dTi_copied_35 : decode cTi_copied 35 = .ok (.iload_n 3, 1) := by decide +kernel
theorem dTi_copied_36 : decode cTi_copied 36 = .ok (.aload_n 2, 1) := by decide +kernel
theorem dTi_copied_37 : decode cTi_copied 37 = .ok (.invokevirtual 252, 3) := by decide +kernel
theorem dTi_copied_40 : decode cTi_copied 40 = .ok (.iload 4, 2) := by decide +kernel
theorem dTi_copied_42 : decode cTi_copied 42 = .ok (.isub, 1) := by decide +kernel
theorem dTi_copied_43 : decode cTi_copied 43 = .ok (.if_icmp .le 6, 3) := by decide +kernel
theorem dTi_copied_46 : decode cTi_copied 46 = .ok (.bipush (-13), 2) := by decide +kernel
theorem dTi_copied_48 : decode cTi_copied 48 = .ok (.ireturn, 1) := by decide +kernel
theorem dTi_copied_49 : decode cTi_copied 49 = .ok (.aload_n 0, 1) := by decide +kernel
theorem dTi_copied_50 : decode cTi_copied 50 = .ok (.iload_n 1, 1) := by decide +kernel
theorem dTi_copied_51 : decode cTi_copied 51 = .ok (.aload_n 2, 1) := by decide +kernel
theorem dTi_copied_52 : decode cTi_copied 52 = .ok (.iload_n 3, 1) := by decide +kernel
theorem dTi_copied_53 : decode cTi_copied 53 = .ok (.iload 4, 2) := by decide +kernel
theorem dTi_copied_55 : decode cTi_copied 55 = .ok (.invokevirtual 305, 3) := by decide +kernel
theorem dTi_copied_58 : decode cTi_copied 58 = .ok (.iload 4, 2) := by decide +kernel
theorem dTi_copied_60 : decode cTi_copied 60 = .ok (.ireturn, 1) := by decide +kernel
theorem dTi_caughtWord_0 : decode cTi_caughtWord 0 = .ok (.aload_n 0, 1) := by decide +kernel
theorem dTi_caughtWord_1 : decode cTi_caughtWord 1 = .ok (.getfield 309, 3) := by decide +kernel
theorem dTi_caughtWord_4 : decode cTi_caughtWord 4 = .ok (.invokestatic 312, 3) := by decide +kernel
theorem dTi_caughtWord_7 : decode cTi_caughtWord 7 = .ok (.goto 16, 3) := by decide +kernel
theorem dTi_caughtWord_10 : decode cTi_caughtWord 10 = .ok (.astore_n 1, 1) := by decide +kernel
theorem dTi_caughtWord_11 : decode cTi_caughtWord 11 = .ok (.aload_n 0, 1) := by decide +kernel
theorem dTi_caughtWord_12 : decode cTi_caughtWord 12 = .ok (.getfield 309, 3) := by decide +kernel
theorem dTi_caughtWord_15 : decode cTi_caughtWord 15 = .ok (.ireturn, 1) := by decide +kernel
theorem dTi_caughtWord_16 : decode cTi_caughtWord 16 = .ok (.astore_n 1, 1) := by decide +kernel
theorem dTi_caughtWord_17 : decode cTi_caughtWord 17 = .ok (.aload_n 0, 1) := by decide +kernel
theorem dTi_caughtWord_18 : decode cTi_caughtWord 18 = .ok (.getfield 309, 3) := by decide +kernel
theorem dTi_caughtWord_21 : decode cTi_caughtWord 21 = .ok (.ineg, 1) := by decide +kernel
theorem dTi_caughtWord_22 : decode cTi_caughtWord 22 = .ok (.ireturn, 1) := by decide +kernel
theorem dTi_caughtWord_23 : decode cTi_caughtWord 23 = .ok (.bipush (-15), 2) := by decide +kernel
theorem dTi_caughtWord_25 : decode cTi_caughtWord 25 = .ok (.ireturn, 1) := by decide +kernel
theorem dTi_throwFailure_0 : decode cTi_throwFailure 0 = .ok (.iload_n 0, 1) := by decide +kernel
theorem dTi_throwFailure_1 : decode cTi_throwFailure 1 = .ok (.ifCond .le 14, 3) := by decide +kernel
theorem dTi_throwFailure_4 : decode cTi_throwFailure 4 = .ok (.new 259, 3) := by decide +kernel
theorem dTi_throwFailure_7 : decode cTi_throwFailure 7 = .ok (.dup, 1) := by decide +kernel
theorem dTi_throwFailure_8 : decode cTi_throwFailure 8 = .ok (.ldc_w 317, 3) := by decide +kernel
theorem dTi_throwFailure_11 : decode cTi_throwFailure 11 = .ok (.invokespecial 263, 3) := by decide +kernel
theorem dTi_throwFailure_14 : decode cTi_throwFailure 14 = .ok (.athrow, 1) := by decide +kernel
theorem dTi_throwFailure_15 : decode cTi_throwFailure 15 = .ok (.iload_n 0, 1) := by decide +kernel
theorem dTi_throwFailure_16 : decode cTi_throwFailure 16 = .ok (.ifCond .ge 14, 3) := by decide +kernel
theorem dTi_throwFailure_19 : decode cTi_throwFailure 19 = .ok (.new 315, 3) := by decide +kernel
theorem dTi_throwFailure_22 : decode cTi_throwFailure 22 = .ok (.dup, 1) := by decide +kernel
theorem dTi_throwFailure_23 : decode cTi_throwFailure 23 = .ok (.ldc_w 319, 3) := by decide +kernel
theorem dTi_throwFailure_26 : decode cTi_throwFailure 26 = .ok (.invokespecial 321, 3) := by decide +kernel
theorem dTi_throwFailure_29 : decode cTi_throwFailure 29 = .ok (.athrow, 1) := by decide +kernel
theorem dTi_throwFailure_30 : decode cTi_throwFailure 30 = .ok (.return_, 1) := by decide +kernel
