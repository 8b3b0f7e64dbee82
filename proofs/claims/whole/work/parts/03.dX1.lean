/-! decode rows -/
theorem dZo_mark_0 : decode cZo_mark 0 = .ok (.iload_n 1, 1) := by decide +kernel
theorem dZo_mark_1 : decode cZo_mark 1 = .ok (.ifCond .eq 9, 3) := by decide +kernel
theorem dZo_mark_4 : decode cZo_mark 4 = .ok (.iconst 2, 1) := by decide +kernel
theorem dZo_mark_5 : decode cZo_mark 5 = .ok (.iload_n 0, 1) := by decide +kernel
theorem dZo_mark_6 : decode cZo_mark 6 = .ok (.imul, 1) := by decide +kernel
theorem dZo_mark_7 : decode cZo_mark 7 = .ok (.goto 8, 3) := by decide +kernel
theorem dZo_mark_10 : decode cZo_mark 10 = .ok (.iconst 2, 1) := by decide +kernel
theorem dZo_mark_11 : decode cZo_mark 11 = .ok (.iload_n 0, 1) := by decide +kernel
theorem dZo_mark_12 : decode cZo_mark 12 = .ok (.imul, 1) := by decide +kernel
theorem dZo_mark_13 : decode cZo_mark 13 = .ok (.iconst 1, 1) := by decide +kernel
theorem dZo_mark_14 : decode cZo_mark 14 = .ok (.iadd, 1) := by decide +kernel
theorem dZo_mark_15 : decode cZo_mark 15 = .ok (.ireturn, 1) := by decide +kernel
theorem dZo_sum_0 : decode cZo_sum 0 = .ok (.iload_n 0, 1) := by decide +kernel
theorem dZo_sum_1 : decode cZo_sum 1 = .ok (.ldc 25, 2) := by decide +kernel
theorem dZo_sum_3 : decode cZo_sum 3 = .ok (.if_icmp .eq 9, 3) := by decide +kernel
theorem dZo_sum_6 : decode cZo_sum 6 = .ok (.iload_n 1, 1) := by decide +kernel
theorem dZo_sum_7 : decode cZo_sum 7 = .ok (.ldc 25, 2) := by decide +kernel
theorem dZo_sum_9 : decode cZo_sum 9 = .ok (.if_icmp .ne 6, 3) := by decide +kernel
theorem dZo_sum_12 : decode cZo_sum 12 = .ok (.ldc 25, 2) := by decide +kernel
theorem dZo_sum_14 : decode cZo_sum 14 = .ok (.ireturn, 1) := by decide +kernel
theorem dZo_sum_15 : decode cZo_sum 15 = .ok (.iload_n 0, 1) := by decide +kernel
theorem dZo_sum_16 : decode cZo_sum 16 = .ok (.iload_n 1, 1) := by decide +kernel
theorem dZo_sum_17 : decode cZo_sum 17 = .ok (.iadd, 1) := by decide +kernel
theorem dZo_sum_18 : decode cZo_sum 18 = .ok (.iload_n 0, 1) := by decide +kernel
theorem dZo_sum_19 : decode cZo_sum 19 = .ok (.iload_n 1, 1) := by decide +kernel
theorem dZo_sum_20 : decode cZo_sum 20 = .ok (.ior, 1) := by decide +kernel
theorem dZo_sum_21 : decode cZo_sum 21 = .ok (.iconst 1, 1) := by decide +kernel
theorem dZo_sum_22 : decode cZo_sum 22 = .ok (.iand, 1) := by decide +kernel
theorem dZo_sum_23 : decode cZo_sum 23 = .ok (.isub, 1) := by decide +kernel
theorem dZo_sum_24 : decode cZo_sum 24 = .ok (.ireturn, 1) := by decide +kernel
theorem dZo_at_0 : decode cZo_at 0 = .ok (.aload_n 0, 1) := by decide +kernel
theorem dZo_at_1 : decode cZo_at 1 = .ok (.getfield 15, 3) := by decide +kernel
theorem dZo_at_4 : decode cZo_at 4 = .ok (.iload_n 1, 1) := by decide +kernel
theorem dZo_at_5 : decode cZo_at 5 = .ok (.aload_n 0, 1) := by decide +kernel
theorem dZo_at_6 : decode cZo_at 6 = .ok (.getfield 9, 3) := by decide +kernel
theorem dZo_at_9 : decode cZo_at 9 = .ok (.imul, 1) := by decide +kernel
theorem dZo_at_10 : decode cZo_at 10 = .ok (.iload_n 2, 1) := by decide +kernel
theorem dZo_at_11 : decode cZo_at 11 = .ok (.iadd, 1) := by decide +kernel
theorem dZo_at_12 : decode cZo_at 12 = .ok (.iaload, 1) := by decide +kernel
theorem dZo_at_13 : decode cZo_at 13 = .ok (.ireturn, 1) := by decide +kernel
theorem dZo_becomeAllZero_0 : decode cZo_becomeAllZero 0 = .ok (.aload_n 0, 1) := by decide +kernel
theorem dZo_becomeAllZero_1 : decode cZo_becomeAllZero 1 = .ok (.getfield 15, 3) := by decide +kernel
theorem dZo_becomeAllZero_4 : decode cZo_becomeAllZero 4 = .ok (.iconst 1, 1) := by decide +kernel
theorem dZo_becomeAllZero_5 : decode cZo_becomeAllZero 5 = .ok (.invokestatic 19, 3) := by decide +kernel
theorem dZo_becomeAllZero_8 : decode cZo_becomeAllZero 8 = .ok (.aload_n 0, 1) := by decide +kernel
theorem dZo_becomeAllZero_9 : decode cZo_becomeAllZero 9 = .ok (.iconst 0, 1) := by decide +kernel
theorem dZo_becomeAllZero_10 : decode cZo_becomeAllZero 10 = .ok (.putfield 26, 3) := by decide +kernel
theorem dZo_becomeAllZero_13 : decode cZo_becomeAllZero 13 = .ok (.return_, 1) := by decide +kernel
theorem dZo_becomeAllTimes_0 : decode cZo_becomeAllTimes 0 = .ok (.aload_n 0, 1) := by decide +kernel
theorem dZo_becomeAllTimes_1 : decode cZo_becomeAllTimes 1 = .ok (.getfield 15, 3) := by decide +kernel
theorem dZo_becomeAllTimes_4 : decode cZo_becomeAllTimes 4 = .ok (.ldc 25, 2) := by decide +kernel
theorem dZo_becomeAllTimes_6 : decode cZo_becomeAllTimes 6 = .ok (.invokestatic 19, 3) := by decide +kernel
theorem dZo_becomeAllTimes_9 : decode cZo_becomeAllTimes 9 = .ok (.iconst 0, 1) := by decide +kernel
theorem dZo_becomeAllTimes_10 : decode cZo_becomeAllTimes 10 = .ok (.istore_n 1, 1) := by decide +kernel
theorem dZo_becomeAllTimes_11 : decode cZo_becomeAllTimes 11 = .ok (.iload_n 1, 1) := by decide +kernel
theorem dZo_becomeAllTimes_12 : decode cZo_becomeAllTimes 12 = .ok (.aload_n 0, 1) := by decide +kernel
theorem dZo_becomeAllTimes_13 : decode cZo_becomeAllTimes 13 = .ok (.getfield 9, 3) := by decide +kernel
theorem dZo_becomeAllTimes_16 : decode cZo_becomeAllTimes 16 = .ok (.if_icmp .ge 30, 3) := by decide +kernel
theorem dZo_becomeAllTimes_19 : decode cZo_becomeAllTimes 19 = .ok (.aload_n 0, 1) := by decide +kernel
theorem dZo_becomeAllTimes_20 : decode cZo_becomeAllTimes 20 = .ok (.getfield 15, 3) := by decide +kernel
theorem dZo_becomeAllTimes_23 : decode cZo_becomeAllTimes 23 = .ok (.iload_n 1, 1) := by decide +kernel
theorem dZo_becomeAllTimes_24 : decode cZo_becomeAllTimes 24 = .ok (.iconst 1, 1) := by decide +kernel
theorem dZo_becomeAllTimes_25 : decode cZo_becomeAllTimes 25 = .ok (.iastore, 1) := by decide +kernel
theorem dZo_becomeAllTimes_26 : decode cZo_becomeAllTimes 26 = .ok (.aload_n 0, 1) := by decide +kernel
theorem dZo_becomeAllTimes_27 : decode cZo_becomeAllTimes 27 = .ok (.getfield 15, 3) := by decide +kernel
theorem dZo_becomeAllTimes_30 : decode cZo_becomeAllTimes 30 = .ok (.iload_n 1, 1) := by decide +kernel
theorem dZo_becomeAllTimes_31 : decode cZo_becomeAllTimes 31 = .ok (.aload_n 0, 1) := by decide +kernel
theorem dZo_becomeAllTimes_32 : decode cZo_becomeAllTimes 32 = .ok (.getfield 9, 3) := by decide +kernel
theorem dZo_becomeAllTimes_35 : decode cZo_becomeAllTimes 35 = .ok (.imul, 1) := by decide +kernel
theorem dZo_becomeAllTimes_36 : decode cZo_becomeAllTimes 36 = .ok (.iload_n 1, 1) := by decide +kernel
theorem dZo_becomeAllTimes_37 : decode cZo_becomeAllTimes 37 = .ok (.iadd, 1) := by decide +kernel
theorem dZo_becomeAllTimes_38 : decode cZo_becomeAllTimes 38 = .ok (.iconst 1, 1) := by decide +kernel
theorem dZo_becomeAllTimes_39 : decode cZo_becomeAllTimes 39 = .ok (.iastore, 1) := by decide +kernel
theorem dZo_becomeAllTimes_40 : decode cZo_becomeAllTimes 40 = .ok (.iinc 1 1, 3) := by decide +kernel
theorem dZo_becomeAllTimes_43 : decode cZo_becomeAllTimes 43 = .ok (.goto (-32), 3) := by decide +kernel
theorem dZo_becomeAllTimes_46 : decode cZo_becomeAllTimes 46 = .ok (.aload_n 0, 1) := by decide +kernel
theorem dZo_becomeAllTimes_47 : decode cZo_becomeAllTimes 47 = .ok (.iconst 0, 1) := by decide +kernel
theorem dZo_becomeAllTimes_48 : decode cZo_becomeAllTimes 48 = .ok (.putfield 26, 3) := by decide +kernel
theorem dZo_becomeAllTimes_51 : decode cZo_becomeAllTimes 51 = .ok (.return_, 1) := by decide +kernel
theorem dZo_becomeAs_0 : decode cZo_becomeAs 0 = .ok (.aload_n 1, 1) := by decide +kernel
theorem dZo_becomeAs_1 : decode cZo_becomeAs 1 = .ok (.getfield 9, 3) := by decide +kernel
theorem dZo_becomeAs_4 : decode cZo_becomeAs 4 = .ok (.aload_n 0, 1) := by decide +kernel
theorem dZo_becomeAs_5 : decode cZo_becomeAs 5 = .ok (.getfield 9, 3) := by decide +kernel
theorem dZo_becomeAs_8 : decode cZo_becomeAs 8 = .ok (.if_icmp .eq 4, 3) := by decide +kernel
theorem dZo_becomeAs_11 : decode cZo_becomeAs 11 = .ok (.return_, 1) := by decide +kernel
theorem dZo_becomeAs_12 : decode cZo_becomeAs 12 = .ok (.aload_n 1, 1) := by decide +kernel
theorem dZo_becomeAs_13 : decode cZo_becomeAs 13 = .ok (.getfield 15, 3) := by decide +kernel
theorem dZo_becomeAs_16 : decode cZo_becomeAs 16 = .ok (.iconst 0, 1) := by decide +kernel
theorem dZo_becomeAs_17 : decode cZo_becomeAs 17 = .ok (.aload_n 0, 1) := by decide +kernel
theorem dZo_becomeAs_18 : decode cZo_becomeAs 18 = .ok (.getfield 15, 3) := by decide +kernel
theorem dZo_becomeAs_21 : decode cZo_becomeAs 21 = .ok (.iconst 0, 1) := by decide +kernel
theorem dZo_becomeAs_22 : decode cZo_becomeAs 22 = .ok (.aload_n 0, 1) := by decide +kernel
theorem dZo_becomeAs_23 : decode cZo_becomeAs 23 = .ok (.getfield 15, 3) := by decide +kernel
theorem dZo_becomeAs_26 : decode cZo_becomeAs 26 = .ok (.arraylength, 1) := by decide +kernel
theorem dZo_becomeAs_27 : decode cZo_becomeAs 27 = .ok (.invokestatic 30, 3) := by decide +kernel
theorem dZo_becomeAs_30 : decode cZo_becomeAs 30 = .ok (.aload_n 0, 1) := by decide +kernel
theorem dZo_becomeAs_31 : decode cZo_becomeAs 31 = .ok (.aload_n 1, 1) := by decide +kernel
theorem dZo_becomeAs_32 : decode cZo_becomeAs 32 = .ok (.getfield 26, 3) := by decide +kernel
theorem dZo_becomeAs_35 : decode cZo_becomeAs 35 = .ok (.putfield 26, 3) := by decide +kernel
theorem dZo_becomeAs_38 : decode cZo_becomeAs 38 = .ok (.return_, 1) := by decide +kernel
theorem dZo_narrow_0 : decode cZo_narrow 0 = .ok (.aload_n 0, 1) := by decide +kernel
theorem dZo_narrow_1 : decode cZo_narrow 1 = .ok (.getfield 15, 3) := by decide +kernel
theorem dZo_narrow_4 : decode cZo_narrow 4 = .ok (.iload_n 1, 1) := by decide +kernel
theorem dZo_narrow_5 : decode cZo_narrow 5 = .ok (.aload_n 0, 1) := by decide +kernel
theorem dZo_narrow_6 : decode cZo_narrow 6 = .ok (.getfield 9, 3) := by decide +kernel
theorem dZo_narrow_9 : decode cZo_narrow 9 = .ok (.imul, 1) := by decide +kernel
theorem dZo_narrow_10 : decode cZo_narrow 10 = .ok (.iload_n 2, 1) := by decide +kernel
theorem dZo_narrow_11 : decode cZo_narrow 11 = .ok (.iadd, 1) := by decide +kernel
theorem dZo_narrow_12 : decode cZo_narrow 12 = .ok (.aload_n 0, 1) := by decide +kernel
theorem dZo_narrow_13 : decode cZo_narrow 13 = .ok (.iload_n 1, 1) := by decide +kernel
theorem dZo_narrow_14 : decode cZo_narrow 14 = .ok (.iload_n 2, 1) := by decide +kernel
theorem dZo_narrow_15 : decode cZo_narrow 15 = .ok (.invokevirtual 36, 3) := by decide +kernel
theorem dZo_narrow_18 : decode cZo_narrow 18 = .ok (.iload_n 3, 1) := by decide +kernel
theorem dZo_narrow_19 : decode cZo_narrow 19 = .ok (.invokestatic 40, 3) := by decide +kernel
theorem dZo_narrow_22 : decode cZo_narrow 22 = .ok (.iastore, 1) := by decide +kernel
theorem dZo_narrow_23 : decode cZo_narrow 23 = .ok (.return_, 1) := by decide +kernel
theorem dZo_cutBy_0 : decode cZo_cutBy 0 = .ok (.iconst 0, 1) := by decide +kernel
theorem dZo_cutBy_1 : decode cZo_cutBy 1 = .ok (.istore_n 2, 1) := by decide +kernel
theorem dZo_cutBy_2 : decode cZo_cutBy 2 = .ok (.iload_n 2, 1) := by decide +kernel
theorem dZo_cutBy_3 : decode cZo_cutBy 3 = .ok (.aload_n 0, 1) := by decide +kernel
theorem dZo_cutBy_4 : decode cZo_cutBy 4 = .ok (.getfield 9, 3) := by decide +kernel
theorem dZo_cutBy_7 : decode cZo_cutBy 7 = .ok (.if_icmp .ge 48, 3) := by decide +kernel
theorem dZo_cutBy_10 : decode cZo_cutBy 10 = .ok (.iconst 0, 1) := by decide +kernel
theorem dZo_cutBy_11 : decode cZo_cutBy 11 = .ok (.istore_n 3, 1) := by decide +kernel
theorem dZo_cutBy_12 : decode cZo_cutBy 12 = .ok (.iload_n 3, 1) := by decide +kernel
theorem dZo_cutBy_13 : decode cZo_cutBy 13 = .ok (.aload_n 0, 1) := by decide +kernel
theorem dZo_cutBy_14 : decode cZo_cutBy 14 = .ok (.getfield 9, 3) := by decide +kernel
theorem dZo_cutBy_17 : decode cZo_cutBy 17 = .ok (.if_icmp .ge 32, 3) := by decide +kernel
theorem dZo_cutBy_20 : decode cZo_cutBy 20 = .ok (.aload_n 1, 1) := by decide +kernel
theorem dZo_cutBy_21 : decode cZo_cutBy 21 = .ok (.getfield 9, 3) := by decide +kernel
theorem dZo_cutBy_24 : decode cZo_cutBy 24 = .ok (.aload_n 0, 1) := by decide +kernel
theorem dZo_cutBy_25 : decode cZo_cutBy 25 = .ok (.getfield 9, 3) := by decide +kernel
theorem dZo_cutBy_28 : decode cZo_cutBy 28 = .ok (.if_icmp .ne 21, 3) := by decide +kernel
theorem dZo_cutBy_31 : decode cZo_cutBy 31 = .ok (.aload_n 0, 1) := by decide +kernel
theorem dZo_cutBy_32 : decode cZo_cutBy 32 = .ok (.iload_n 2, 1) := by decide +kernel
theorem dZo_cutBy_33 : decode cZo_cutBy 33 = .ok (.iload_n 3, 1) := by decide +kernel
theorem dZo_cutBy_34 : decode cZo_cutBy 34 = .ok (.aload_n 1, 1) := by decide +kernel
theorem dZo_cutBy_35 : decode cZo_cutBy 35 = .ok (.iload_n 2, 1) := by decide +kernel
theorem dZo_cutBy_36 : decode cZo_cutBy 36 = .ok (.iload_n 3, 1) := by decide +kernel
theorem dZo_cutBy_37 : decode cZo_cutBy 37 = .ok (.invokevirtual 36, 3) := by decide +kernel
theorem dZo_cutBy_40 : decode cZo_cutBy 40 = .ok (.invokevirtual 45, 3) := by decide +kernel
theorem dZo_cutBy_43 : decode cZo_cutBy 43 = .ok (.iinc 3 1, 3) := by decide +kernel
theorem dZo_cutBy_46 : decode cZo_cutBy 46 = .ok (.goto (-34), 3) := by decide +kernel
theorem dZo_cutBy_49 : decode cZo_cutBy 49 = .ok (.iinc 2 1, 3) := by decide +kernel
theorem dZo_cutBy_52 : decode cZo_cutBy 52 = .ok (.goto (-50), 3) := by decide +kernel
theorem dZo_cutBy_55 : decode cZo_cutBy 55 = .ok (.return_, 1) := by decide +kernel
theorem dZo_squeeze_0 : decode cZo_squeeze 0 = .ok (.aload_n 0, 1) := by decide +kernel
theorem dZo_squeeze_1 : decode cZo_squeeze 1 = .ok (.getfield 26, 3) := by decide +kernel
theorem dZo_squeeze_4 : decode cZo_squeeze 4 = .ok (.ifCond .ne 13, 3) := by decide +kernel
theorem dZo_squeeze_7 : decode cZo_squeeze 7 = .ok (.iload_n 3, 1) := by decide +kernel
theorem dZo_squeeze_8 : decode cZo_squeeze 8 = .ok (.aload_n 0, 1) := by decide +kernel
theorem dZo_squeeze_9 : decode cZo_squeeze 9 = .ok (.iload_n 1, 1) := by decide +kernel
theorem dZo_squeeze_10 : decode cZo_squeeze 10 = .ok (.iload_n 2, 1) := by decide +kernel
theorem dZo_squeeze_11 : decode cZo_squeeze 11 = .ok (.invokevirtual 36, 3) := by decide +kernel
theorem dZo_squeeze_14 : decode cZo_squeeze 14 = .ok (.if_icmp .lt 4, 3) := by decide +kernel
theorem dZo_squeeze_17 : decode cZo_squeeze 17 = .ok (.return_, 1) := by decide +kernel
theorem dZo_squeeze_18 : decode cZo_squeeze 18 = .ok (.iload_n 3, 1) := by decide +kernel
theorem dZo_squeeze_19 : decode cZo_squeeze 19 = .ok (.aload_n 0, 1) := by decide +kernel
theorem dZo_squeeze_20 : decode cZo_squeeze 20 = .ok (.iload_n 2, 1) := by decide +kernel
theorem dZo_squeeze_21 : decode cZo_squeeze 21 = .ok (.iload_n 1, 1) := by decide +kernel
theorem dZo_squeeze_22 : decode cZo_squeeze 22 = .ok (.invokevirtual 36, 3) := by decide +kernel
theorem dZo_squeeze_25 : decode cZo_squeeze 25 = .ok (.invokestatic 49, 3) := by decide +kernel
theorem dZo_squeeze_28 : decode cZo_squeeze 28 = .ok (.iconst 1, 1) := by decide +kernel
theorem dZo_squeeze_29 : decode cZo_squeeze 29 = .ok (.if_icmp .ge 9, 3) := by decide +kernel
theorem dZo_squeeze_32 : decode cZo_squeeze 32 = .ok (.aload_n 0, 1) := by decide +kernel
theorem dZo_squeeze_33 : decode cZo_squeeze 33 = .ok (.iconst 1, 1) := by decide +kernel
theorem dZo_squeeze_34 : decode cZo_squeeze 34 = .ok (.putfield 26, 3) := by decide +kernel
theorem dZo_squeeze_37 : decode cZo_squeeze 37 = .ok (.return_, 1) := by decide +kernel
theorem dZo_squeeze_38 : decode cZo_squeeze 38 = .ok (.iconst 0, 1) := by decide +kernel
theorem dZo_squeeze_39 : decode cZo_squeeze 39 = .ok (.istore 4, 2) := by decide +kernel
theorem dZo_squeeze_41 : decode cZo_squeeze 41 = .ok (.iload 4, 2) := by decide +kernel
theorem dZo_squeeze_43 : decode cZo_squeeze 43 = .ok (.aload_n 0, 1) := by decide +kernel
theorem dZo_squeeze_44 : decode cZo_squeeze 44 = .ok (.getfield 9, 3) := by decide +kernel
theorem dZo_squeeze_47 : decode cZo_squeeze 47 = .ok (.if_icmp .ge 85, 3) := by decide +kernel
theorem dZo_squeeze_50 : decode cZo_squeeze 50 = .ok (.aload_n 0, 1) := by decide +kernel
theorem dZo_squeeze_51 : decode cZo_squeeze 51 = .ok (.iload 4, 2) := by decide +kernel
theorem dZo_squeeze_53 : decode cZo_squeeze 53 = .ok (.iload_n 1, 1) := by decide +kernel
theorem dZo_squeeze_54 : decode cZo_squeeze 54 = .ok (.invokevirtual 36, 3) := by decide +kernel
theorem dZo_squeeze_57 : decode cZo_squeeze 57 = .ok (.iload_n 3, 1) := by decide +kernel
theorem dZo_squeeze_58 : decode cZo_squeeze 58 = .ok (.invokestatic 49, 3) := by decide +kernel
theorem dZo_squeeze_61 : decode cZo_squeeze 61 = .ok (.istore 5, 2) := by decide +kernel
theorem dZo_squeeze_63 : decode cZo_squeeze 63 = .ok (.iconst 0, 1) := by decide +kernel
theorem dZo_squeeze_64 : decode cZo_squeeze 64 = .ok (.istore 6, 2) := by decide +kernel
theorem dZo_squeeze_66 : decode cZo_squeeze 66 = .ok (.iload 6, 2) := by decide +kernel
theorem dZo_squeeze_68 : decode cZo_squeeze 68 = .ok (.aload_n 0, 1) := by decide +kernel
theorem dZo_squeeze_69 : decode cZo_squeeze 69 = .ok (.getfield 9, 3) := by decide +kernel
theorem dZo_squeeze_72 : decode cZo_squeeze 72 = .ok (.if_icmp .ge 54, 3) := by decide +kernel
theorem dZo_squeeze_75 : decode cZo_squeeze 75 = .ok (.iload 5, 2) := by decide +kernel
theorem dZo_squeeze_77 : decode cZo_squeeze 77 = .ok (.ldc 25, 2) := by decide +kernel
theorem dZo_squeeze_79 : decode cZo_squeeze 79 = .ok (.if_icmp .eq 47, 3) := by decide +kernel
theorem dZo_squeeze_82 : decode cZo_squeeze 82 = .ok (.aload_n 0, 1) := by decide +kernel
theorem dZo_squeeze_83 : decode cZo_squeeze 83 = .ok (.getfield 15, 3) := by decide +kernel
theorem dZo_squeeze_86 : decode cZo_squeeze 86 = .ok (.iload 4, 2) := by decide +kernel
theorem dZo_squeeze_88 : decode cZo_squeeze 88 = .ok (.aload_n 0, 1) := by decide +kernel
theorem dZo_squeeze_89 : decode cZo_squeeze 89 = .ok (.getfield 9, 3) := by decide +kernel
theorem dZo_squeeze_92 : decode cZo_squeeze 92 = .ok (.imul, 1) := by decide +kernel
theorem dZo_squeeze_93 : decode cZo_squeeze 93 = .ok (.iload 6, 2) := by decide +kernel
theorem dZo_squeeze_95 : decode cZo_squeeze 95 = .ok (.iadd, 1) := by decide +kernel
theorem dZo_squeeze_96 : decode cZo_squeeze 96 = .ok (.aload_n 0, 1) := by decide +kernel
theorem dZo_squeeze_97 : decode cZo_squeeze 97 = .ok (.iload 4, 2) := by decide +kernel
theorem dZo_squeeze_99 : decode cZo_squeeze 99 = .ok (.iload 6, 2) := by decide +kernel
theorem dZo_squeeze_101 : decode cZo_squeeze 101 = .ok (.invokevirtual 36, 3) := by decide +kernel
theorem dZo_squeeze_104 : decode cZo_squeeze 104 = .ok (.iload 5, 2) := by decide +kernel
theorem dZo_squeeze_106 : decode cZo_squeeze 106 = .ok (.aload_n 0, 1) := by decide +kernel
theorem dZo_squeeze_107 : decode cZo_squeeze 107 = .ok (.iload_n 2, 1) := by decide +kernel
theorem dZo_squeeze_108 : decode cZo_squeeze 108 = .ok (.iload 6, 2) := by decide +kernel
theorem dZo_squeeze_110 : decode cZo_squeeze 110 = .ok (.invokevirtual 36, 3) := by decide +kernel
theorem dZo_squeeze_113 : decode cZo_squeeze 113 = .ok (.invokestatic 49, 3) := by decide +kernel
theorem dZo_squeeze_116 : decode cZo_squeeze 116 = .ok (.invokestatic 40, 3) := by decide +kernel
theorem dZo_squeeze_119 : decode cZo_squeeze 119 = .ok (.iastore, 1) := by decide +kernel
theorem dZo_squeeze_120 : decode cZo_squeeze 120 = .ok (.iinc 6 1, 3) := by decide +kernel
theorem dZo_squeeze_123 : decode cZo_squeeze 123 = .ok (.goto (-57), 3) := by decide +kernel
theorem dZo_squeeze_126 : decode cZo_squeeze 126 = .ok (.iinc 4 1, 3) := by decide +kernel
theorem dZo_squeeze_129 : decode cZo_squeeze 129 = .ok (.goto (-88), 3) := by decide +kernel
theorem dZo_squeeze_132 : decode cZo_squeeze 132 = .ok (.return_, 1) := by decide +kernel
theorem dZo_elapse_0 : decode cZo_elapse 0 = .ok (.iconst 1, 1) := by decide +kernel
theorem dZo_elapse_1 : decode cZo_elapse 1 = .ok (.istore_n 1, 1) := by decide +kernel
theorem dZo_elapse_2 : decode cZo_elapse 2 = .ok (.iload_n 1, 1) := by decide +kernel
theorem dZo_elapse_3 : decode cZo_elapse 3 = .ok (.aload_n 0, 1) := by decide +kernel
theorem dZo_elapse_4 : decode cZo_elapse 4 = .ok (.getfield 9, 3) := by decide +kernel
theorem dZo_elapse_7 : decode cZo_elapse 7 = .ok (.if_icmp .ge 22, 3) := by decide +kernel
theorem dZo_elapse_10 : decode cZo_elapse 10 = .ok (.aload_n 0, 1) := by decide +kernel
theorem dZo_elapse_11 : decode cZo_elapse 11 = .ok (.getfield 15, 3) := by decide +kernel
theorem dZo_elapse_14 : decode cZo_elapse 14 = .ok (.iload_n 1, 1) := by decide +kernel
theorem dZo_elapse_15 : decode cZo_elapse 15 = .ok (.aload_n 0, 1) := by decide +kernel
theorem dZo_elapse_16 : decode cZo_elapse 16 = .ok (.getfield 9, 3) := by decide +kernel
theorem dZo_elapse_19 : decode cZo_elapse 19 = .ok (.imul, 1) := by decide +kernel
theorem dZo_elapse_20 : decode cZo_elapse 20 = .ok (.ldc 25, 2) := by decide +kernel
theorem dZo_elapse_22 : decode cZo_elapse 22 = .ok (.iastore, 1) := by decide +kernel
theorem dZo_elapse_23 : decode cZo_elapse 23 = .ok (.iinc 1 1, 3) := by decide +kernel
theorem dZo_elapse_26 : decode cZo_elapse 26 = .ok (.goto (-24), 3) := by decide +kernel
theorem dZo_elapse_29 : decode cZo_elapse 29 = .ok (.return_, 1) := by decide +kernel
theorem dZo_reset_0 : decode cZo_reset 0 = .ok (.iconst 1, 1) := by decide +kernel
theorem dZo_reset_1 : decode cZo_reset 1 = .ok (.istore_n 2, 1) := by decide +kernel
theorem dZo_reset_2 : decode cZo_reset 2 = .ok (.iload_n 2, 1) := by decide +kernel
theorem dZo_reset_3 : decode cZo_reset 3 = .ok (.iconst 4, 1) := by decide +kernel
theorem dZo_reset_4 : decode cZo_reset 4 = .ok (.if_icmp .ge 99, 3) := by decide +kernel
theorem dZo_reset_7 : decode cZo_reset 7 = .ok (.iload_n 1, 1) := by decide +kernel
theorem dZo_reset_8 : decode cZo_reset 8 = .ok (.iload_n 2, 1) := by decide +kernel
theorem dZo_reset_9 : decode cZo_reset 9 = .ok (.invokestatic 52, 3) := by decide +kernel
theorem dZo_reset_12 : decode cZo_reset 12 = .ok (.ifCond .ne 6, 3) := by decide +kernel
theorem dZo_reset_15 : decode cZo_reset 15 = .ok (.goto 82, 3) := by decide +kernel
theorem dZo_reset_18 : decode cZo_reset 18 = .ok (.iconst 0, 1) := by decide +kernel
theorem dZo_reset_19 : decode cZo_reset 19 = .ok (.istore_n 3, 1) := by decide +kernel
theorem dZo_reset_20 : decode cZo_reset 20 = .ok (.iload_n 3, 1) := by decide +kernel
theorem dZo_reset_21 : decode cZo_reset 21 = .ok (.aload_n 0, 1) := by decide +kernel
theorem dZo_reset_22 : decode cZo_reset 22 = .ok (.getfield 9, 3) := by decide +kernel
theorem dZo_reset_25 : decode cZo_reset 25 = .ok (.if_icmp .ge 72, 3) := by decide +kernel
theorem dZo_reset_28 : decode cZo_reset 28 = .ok (.iload_n 1, 1) := by decide +kernel
theorem dZo_reset_29 : decode cZo_reset 29 = .ok (.iload_n 3, 1) := by decide +kernel
theorem dZo_reset_30 : decode cZo_reset 30 = .ok (.invokestatic 52, 3) := by decide +kernel
theorem dZo_reset_33 : decode cZo_reset 33 = .ok (.istore 4, 2) := by decide +kernel
theorem dZo_reset_35 : decode cZo_reset 35 = .ok (.aload_n 0, 1) := by decide +kernel
theorem dZo_reset_36 : decode cZo_reset 36 = .ok (.getfield 15, 3) := by decide +kernel
theorem dZo_reset_39 : decode cZo_reset 39 = .ok (.iload_n 2, 1) := by decide +kernel
theorem dZo_reset_40 : decode cZo_reset 40 = .ok (.aload_n 0, 1) := by decide +kernel
theorem dZo_reset_41 : decode cZo_reset 41 = .ok (.getfield 9, 3) := by decide +kernel
theorem dZo_reset_44 : decode cZo_reset 44 = .ok (.imul, 1) := by decide +kernel
theorem dZo_reset_45 : decode cZo_reset 45 = .ok (.iload_n 3, 1) := by decide +kernel
theorem dZo_reset_46 : decode cZo_reset 46 = .ok (.iadd, 1) := by decide +kernel
theorem dZo_reset_47 : decode cZo_reset 47 = .ok (.iload 4, 2) := by decide +kernel
theorem dZo_reset_49 : decode cZo_reset 49 = .ok (.ifCond .eq 7, 3) := by decide +kernel
theorem dZo_reset_52 : decode cZo_reset 52 = .ok (.iconst 1, 1) := by decide +kernel
theorem dZo_reset_53 : decode cZo_reset 53 = .ok (.goto 9, 3) := by decide +kernel
theorem dZo_reset_56 : decode cZo_reset 56 = .ok (.aload_n 0, 1) := by decide +kernel
theorem dZo_reset_57 : decode cZo_reset 57 = .ok (.iconst 0, 1) := by decide +kernel
theorem dZo_reset_58 : decode cZo_reset 58 = .ok (.iload_n 3, 1) := by decide +kernel
theorem dZo_reset_59 : decode cZo_reset 59 = .ok (.invokevirtual 36, 3) := by decide +kernel
theorem dZo_reset_62 : decode cZo_reset 62 = .ok (.iastore, 1) := by decide +kernel
theorem dZo_reset_63 : decode cZo_reset 63 = .ok (.aload_n 0, 1) := by decide +kernel
theorem dZo_reset_64 : decode cZo_reset 64 = .ok (.getfield 15, 3) := by decide +kernel
theorem dZo_reset_67 : decode cZo_reset 67 = .ok (.iload_n 3, 1) := by decide +kernel
theorem dZo_reset_68 : decode cZo_reset 68 = .ok (.aload_n 0, 1) := by decide +kernel
theorem dZo_reset_69 : decode cZo_reset 69 = .ok (.getfield 9, 3) := by decide +kernel
theorem dZo_reset_72 : decode cZo_reset 72 = .ok (.imul, 1) := by decide +kernel
theorem dZo_reset_73 : decode cZo_reset 73 = .ok (.iload_n 2, 1) := by decide +kernel
theorem dZo_reset_74 : decode cZo_reset 74 = .ok (.iadd, 1) := by decide +kernel
theorem dZo_reset_75 : decode cZo_reset 75 = .ok (.iload 4, 2) := by decide +kernel
theorem dZo_reset_77 : decode cZo_reset 77 = .ok (.ifCond .eq 7, 3) := by decide +kernel
theorem dZo_reset_80 : decode cZo_reset 80 = .ok (.iconst 1, 1) := by decide +kernel
theorem dZo_reset_81 : decode cZo_reset 81 = .ok (.goto 9, 3) := by decide +kernel
theorem dZo_reset_84 : decode cZo_reset 84 = .ok (.aload_n 0, 1) := by decide +kernel
theorem dZo_reset_85 : decode cZo_reset 85 = .ok (.iload_n 3, 1) := by decide +kernel
theorem dZo_reset_86 : decode cZo_reset 86 = .ok (.iconst 0, 1) := by decide +kernel
theorem dZo_reset_87 : decode cZo_reset 87 = .ok (.invokevirtual 36, 3) := by decide +kernel
theorem dZo_reset_90 : decode cZo_reset 90 = .ok (.iastore, 1) := by decide +kernel
theorem dZo_reset_91 : decode cZo_reset 91 = .ok (.iinc 3 1, 3) := by decide +kernel
theorem dZo_reset_94 : decode cZo_reset 94 = .ok (.goto (-74), 3) := by decide +kernel
theorem dZo_reset_97 : decode cZo_reset 97 = .ok (.iinc 2 1, 3) := by decide +kernel
theorem dZo_reset_100 : decode cZo_reset 100 = .ok (.goto (-98), 3) := by decide +kernel
theorem dZo_reset_103 : decode cZo_reset 103 = .ok (.return_, 1) := by decide +kernel
theorem dZo_isSet_0 : decode cZo_isSet 0 = .ok (.iload_n 1, 1) := by decide +kernel
theorem dZo_isSet_1 : decode cZo_isSet 1 = .ok (.ifCond .le 23, 3) := by decide +kernel
theorem dZo_isSet_4 : decode cZo_isSet 4 = .ok (.iload_n 1, 1) := by decide +kernel
theorem dZo_isSet_5 : decode cZo_isSet 5 = .ok (.iconst 4, 1) := by decide +kernel
theorem dZo_isSet_6 : decode cZo_isSet 6 = .ok (.if_icmp .ge 18, 3) := by decide +kernel
theorem dZo_isSet_9 : decode cZo_isSet 9 = .ok (.iload_n 0, 1) := by decide +kernel
theorem dZo_isSet_10 : decode cZo_isSet 10 = .ok (.iload_n 1, 1) := by decide +kernel
theorem dZo_isSet_11 : decode cZo_isSet 11 = .ok (.iconst 1, 1) := by decide +kernel
theorem dZo_isSet_12 : decode cZo_isSet 12 = .ok (.isub, 1) := by decide +kernel
theorem dZo_isSet_13 : decode cZo_isSet 13 = .ok (.ishr, 1) := by decide +kernel
theorem dZo_isSet_14 : decode cZo_isSet 14 = .ok (.iconst 1, 1) := by decide +kernel
theorem dZo_isSet_15 : decode cZo_isSet 15 = .ok (.iand, 1) := by decide +kernel
theorem dZo_isSet_16 : decode cZo_isSet 16 = .ok (.iconst 1, 1) := by decide +kernel
theorem dZo_isSet_17 : decode cZo_isSet 17 = .ok (.if_icmp .ne 7, 3) := by decide +kernel
theorem dZo_isSet_20 : decode cZo_isSet 20 = .ok (.iconst 1, 1) := by decide +kernel
theorem dZo_isSet_21 : decode cZo_isSet 21 = .ok (.goto 4, 3) := by decide +kernel
theorem dZo_isSet_24 : decode cZo_isSet 24 = .ok (.iconst 0, 1) := by decide +kernel
theorem dZo_isSet_25 : decode cZo_isSet 25 = .ok (.ireturn, 1) := by decide +kernel
theorem dZo_loosen_0 : decode cZo_loosen 0 = .ok (.aload_n 0, 1) := by decide +kernel
theorem dZo_loosen_1 : decode cZo_loosen 1 = .ok (.getfield 26, 3) := by decide +kernel
theorem dZo_loosen_4 : decode cZo_loosen 4 = .ok (.ifCond .ne 12, 3) := by decide +kernel
theorem dZo_loosen_7 : decode cZo_loosen 7 = .ok (.aload_n 1, 1) := by decide +kernel
theorem dZo_loosen_8 : decode cZo_loosen 8 = .ok (.arraylength, 1) := by decide +kernel
theorem dZo_loosen_9 : decode cZo_loosen 9 = .ok (.aload_n 0, 1) := by decide +kernel
theorem dZo_loosen_10 : decode cZo_loosen 10 = .ok (.getfield 9, 3) := by decide +kernel
theorem dZo_loosen_13 : decode cZo_loosen 13 = .ok (.if_icmp .eq 5, 3) := by decide +kernel
theorem dZo_loosen_16 : decode cZo_loosen 16 = .ok (.iconst 0, 1) := by decide +kernel
theorem dZo_loosen_17 : decode cZo_loosen 17 = .ok (.ireturn, 1) := by decide +kernel
theorem dZo_loosen_18 : decode cZo_loosen 18 = .ok (.iconst 0, 1) := by decide +kernel
theorem dZo_loosen_19 : decode cZo_loosen 19 = .ok (.istore_n 2, 1) := by decide +kernel
theorem dZo_loosen_20 : decode cZo_loosen 20 = .ok (.iconst 0, 1) := by decide +kernel
theorem dZo_loosen_21 : decode cZo_loosen 21 = .ok (.istore_n 3, 1) := by decide +kernel
theorem dZo_loosen_22 : decode cZo_loosen 22 = .ok (.iload_n 3, 1) := by decide +kernel
theorem dZo_loosen_23 : decode cZo_loosen 23 = .ok (.aload_n 0, 1) := by decide +kernel
theorem dZo_loosen_24 : decode cZo_loosen 24 = .ok (.getfield 9, 3) := by decide +kernel
theorem dZo_loosen_27 : decode cZo_loosen 27 = .ok (.if_icmp .ge 85, 3) := by decide +kernel
theorem dZo_loosen_30 : decode cZo_loosen 30 = .ok (.iconst 0, 1) := by decide +kernel
theorem dZo_loosen_31 : decode cZo_loosen 31 = .ok (.istore 4, 2) := by decide +kernel
theorem dZo_loosen_33 : decode cZo_loosen 33 = .ok (.iload 4, 2) := by decide +kernel
theorem dZo_loosen_35 : decode cZo_loosen 35 = .ok (.aload_n 0, 1) := by decide +kernel
theorem dZo_loosen_36 : decode cZo_loosen 36 = .ok (.getfield 9, 3) := by decide +kernel
theorem dZo_loosen_39 : decode cZo_loosen 39 = .ok (.if_icmp .ge 67, 3) := by decide +kernel
theorem dZo_loosen_42 : decode cZo_loosen 42 = .ok (.iload_n 3, 1) := by decide +kernel
theorem dZo_loosen_43 : decode cZo_loosen 43 = .ok (.aload_n 0, 1) := by decide +kernel
theorem dZo_loosen_44 : decode cZo_loosen 44 = .ok (.iload_n 3, 1) := by decide +kernel
theorem dZo_loosen_45 : decode cZo_loosen 45 = .ok (.iload 4, 2) := by decide +kernel
theorem dZo_loosen_47 : decode cZo_loosen 47 = .ok (.invokevirtual 36, 3) := by decide +kernel
theorem dZo_loosen_50 : decode cZo_loosen 50 = .ok (.aload_n 1, 1) := by decide +kernel
theorem dZo_loosen_51 : decode cZo_loosen 51 = .ok (.iload_n 3, 1) := by decide +kernel
theorem dZo_loosen_52 : decode cZo_loosen 52 = .ok (.iaload, 1) := by decide +kernel
theorem dZo_loosen_53 : decode cZo_loosen 53 = .ok (.aload_n 1, 1) := by decide +kernel
theorem dZo_loosen_54 : decode cZo_loosen 54 = .ok (.iload 4, 2) := by decide +kernel
theorem dZo_loosen_56 : decode cZo_loosen 56 = .ok (.iaload, 1) := by decide +kernel
theorem dZo_loosen_57 : decode cZo_loosen 57 = .ok (.invokestatic 56, 3) := by decide +kernel
theorem dZo_loosen_60 : decode cZo_loosen 60 = .ok (.istore 5, 2) := by decide +kernel
theorem dZo_loosen_62 : decode cZo_loosen 62 = .ok (.iload_n 2, 1) := by decide +kernel
theorem dZo_loosen_63 : decode cZo_loosen 63 = .ok (.ifCond .ne 15, 3) := by decide +kernel
theorem dZo_loosen_66 : decode cZo_loosen 66 = .ok (.iload 5, 2) := by decide +kernel
theorem dZo_loosen_68 : decode cZo_loosen 68 = .ok (.aload_n 0, 1) := by decide +kernel
theorem dZo_loosen_69 : decode cZo_loosen 69 = .ok (.iload_n 3, 1) := by decide +kernel
theorem dZo_loosen_70 : decode cZo_loosen 70 = .ok (.iload 4, 2) := by decide +kernel
theorem dZo_loosen_72 : decode cZo_loosen 72 = .ok (.invokevirtual 36, 3) := by decide +kernel
theorem dZo_loosen_75 : decode cZo_loosen 75 = .ok (.if_icmp .eq 7, 3) := by decide +kernel
theorem dZo_loosen_78 : decode cZo_loosen 78 = .ok (.iconst 1, 1) := by decide +kernel
theorem dZo_loosen_79 : decode cZo_loosen 79 = .ok (.goto 4, 3) := by decide +kernel
theorem dZo_loosen_82 : decode cZo_loosen 82 = .ok (.iconst 0, 1) := by decide +kernel
theorem dZo_loosen_83 : decode cZo_loosen 83 = .ok (.istore_n 2, 1) := by decide +kernel
theorem dZo_loosen_84 : decode cZo_loosen 84 = .ok (.aload_n 0, 1) := by decide +kernel
theorem dZo_loosen_85 : decode cZo_loosen 85 = .ok (.getfield 15, 3) := by decide +kernel
theorem dZo_loosen_88 : decode cZo_loosen 88 = .ok (.iload_n 3, 1) := by decide +kernel
theorem dZo_loosen_89 : decode cZo_loosen 89 = .ok (.aload_n 0, 1) := by decide +kernel
theorem dZo_loosen_90 : decode cZo_loosen 90 = .ok (.getfield 9, 3) := by decide +kernel
theorem dZo_loosen_93 : decode cZo_loosen 93 = .ok (.imul, 1) := by decide +kernel
theorem dZo_loosen_94 : decode cZo_loosen 94 = .ok (.iload 4, 2) := by decide +kernel
theorem dZo_loosen_96 : decode cZo_loosen 96 = .ok (.iadd, 1) := by decide +kernel
theorem dZo_loosen_97 : decode cZo_loosen 97 = .ok (.iload 5, 2) := by decide +kernel
theorem dZo_loosen_99 : decode cZo_loosen 99 = .ok (.iastore, 1) := by decide +kernel
theorem dZo_loosen_100 : decode cZo_loosen 100 = .ok (.iinc 4 1, 3) := by decide +kernel
theorem dZo_loosen_103 : decode cZo_loosen 103 = .ok (.goto (-70), 3) := by decide +kernel
theorem dZo_loosen_106 : decode cZo_loosen 106 = .ok (.iinc 3 1, 3) := by decide +kernel
theorem dZo_loosen_109 : decode cZo_loosen 109 = .ok (.goto (-87), 3) := by decide +kernel
theorem dZo_loosen_112 : decode cZo_loosen 112 = .ok (.iload_n 2, 1) := by decide +kernel
theorem dZo_loosen_113 : decode cZo_loosen 113 = .ok (.ireturn, 1) := by decide +kernel
theorem dZo_loosened_0 : decode cZo_loosened 0 = .ok (.iload_n 1, 1) := by decide +kernel
theorem dZo_loosened_1 : decode cZo_loosened 1 = .ok (.iconst 1, 1) := by decide +kernel
theorem dZo_loosened_2 : decode cZo_loosened 2 = .ok (.ishr, 1) := by decide +kernel
theorem dZo_loosened_3 : decode cZo_loosened 3 = .ok (.istore 4, 2) := by decide +kernel
theorem dZo_loosened_5 : decode cZo_loosened 5 = .ok (.iload_n 0, 1) := by decide +kernel
theorem dZo_loosened_6 : decode cZo_loosened 6 = .ok (.ifCond .eq 12, 3) := by decide +kernel
theorem dZo_loosened_9 : decode cZo_loosened 9 = .ok (.iload 4, 2) := by decide +kernel
theorem dZo_loosened_11 : decode cZo_loosened 11 = .ok (.iload_n 2, 1) := by decide +kernel
theorem dZo_loosened_12 : decode cZo_loosened 12 = .ok (.if_icmp .le 6, 3) := by decide +kernel
theorem dZo_loosened_15 : decode cZo_loosened 15 = .ok (.ldc 25, 2) := by decide +kernel
theorem dZo_loosened_17 : decode cZo_loosened 17 = .ok (.ireturn, 1) := by decide +kernel
theorem dZo_loosened_18 : decode cZo_loosened 18 = .ok (.iload 4, 2) := by decide +kernel
theorem dZo_loosened_20 : decode cZo_loosened 20 = .ok (.iload_n 3, 1) := by decide +kernel
theorem dZo_loosened_21 : decode cZo_loosened 21 = .ok (.ineg, 1) := by decide +kernel
theorem dZo_loosened_22 : decode cZo_loosened 22 = .ok (.if_icmp .ge 12, 3) := by decide +kernel
theorem dZo_loosened_25 : decode cZo_loosened 25 = .ok (.iload_n 3, 1) := by decide +kernel
theorem dZo_loosened_26 : decode cZo_loosened 26 = .ok (.ineg, 1) := by decide +kernel
theorem dZo_loosened_27 : decode cZo_loosened 27 = .ok (.iconst 1, 1) := by decide +kernel
theorem dZo_loosened_28 : decode cZo_loosened 28 = .ok (.invokestatic 60, 3) := by decide +kernel
theorem dZo_loosened_31 : decode cZo_loosened 31 = .ok (.goto 4, 3) := by decide +kernel
theorem dZo_loosened_34 : decode cZo_loosened 34 = .ok (.iload_n 1, 1) := by decide +kernel
theorem dZo_loosened_35 : decode cZo_loosened 35 = .ok (.ireturn, 1) := by decide +kernel
theorem dZo_close_0 : decode cZo_close 0 = .ok (.iconst 0, 1) := by decide +kernel
theorem dZo_close_1 : decode cZo_close 1 = .ok (.istore_n 1, 1) := by decide +kernel
theorem dZo_close_2 : decode cZo_close 2 = .ok (.iload_n 1, 1) := by decide +kernel
theorem dZo_close_3 : decode cZo_close 3 = .ok (.aload_n 0, 1) := by decide +kernel
theorem dZo_close_4 : decode cZo_close 4 = .ok (.getfield 9, 3) := by decide +kernel
theorem dZo_close_7 : decode cZo_close 7 = .ok (.if_icmp .ge 77, 3) := by decide +kernel
theorem dZo_close_10 : decode cZo_close 10 = .ok (.aload_n 0, 1) := by decide +kernel
theorem dZo_close_11 : decode cZo_close 11 = .ok (.getfield 26, 3) := by decide +kernel
theorem dZo_close_14 : decode cZo_close 14 = .ok (.ifCond .ne 70, 3) := by decide +kernel
theorem dZo_close_17 : decode cZo_close 17 = .ok (.iconst 0, 1) := by decide +kernel
theorem dZo_close_18 : decode cZo_close 18 = .ok (.istore_n 2, 1) := by decide +kernel
theorem dZo_close_19 : decode cZo_close 19 = .ok (.iload_n 2, 1) := by decide +kernel
theorem dZo_close_20 : decode cZo_close 20 = .ok (.aload_n 0, 1) := by decide +kernel
theorem dZo_close_21 : decode cZo_close 21 = .ok (.getfield 9, 3) := by decide +kernel
theorem dZo_close_24 : decode cZo_close 24 = .ok (.if_icmp .ge 46, 3) := by decide +kernel
theorem dZo_close_27 : decode cZo_close 27 = .ok (.iconst 0, 1) := by decide +kernel
theorem dZo_close_28 : decode cZo_close 28 = .ok (.istore_n 3, 1) := by decide +kernel
theorem dZo_close_29 : decode cZo_close 29 = .ok (.iload_n 3, 1) := by decide +kernel
theorem dZo_close_30 : decode cZo_close 30 = .ok (.aload_n 0, 1) := by decide +kernel
theorem dZo_close_31 : decode cZo_close 31 = .ok (.getfield 9, 3) := by decide +kernel
theorem dZo_close_34 : decode cZo_close 34 = .ok (.if_icmp .ge 30, 3) := by decide +kernel
theorem dZo_close_37 : decode cZo_close 37 = .ok (.aload_n 0, 1) := by decide +kernel
theorem dZo_close_38 : decode cZo_close 38 = .ok (.iload_n 2, 1) := by decide +kernel
theorem dZo_close_39 : decode cZo_close 39 = .ok (.iload_n 3, 1) := by decide +kernel
theorem dZo_close_40 : decode cZo_close 40 = .ok (.aload_n 0, 1) := by decide +kernel
theorem dZo_close_41 : decode cZo_close 41 = .ok (.iload_n 2, 1) := by decide +kernel
theorem dZo_close_42 : decode cZo_close 42 = .ok (.iload_n 1, 1) := by decide +kernel
theorem dZo_close_43 : decode cZo_close 43 = .ok (.invokevirtual 36, 3) := by decide +kernel
theorem dZo_close_46 : decode cZo_close 46 = .ok (.aload_n 0, 1) := by decide +kernel
theorem dZo_close_47 : decode cZo_close 47 = .ok (.iload_n 1, 1) := by decide +kernel
theorem dZo_close_48 : decode cZo_close 48 = .ok (.iload_n 3, 1) := by decide +kernel
theorem dZo_close_49 : decode cZo_close 49 = .ok (.invokevirtual 36, 3) := by decide +kernel
theorem dZo_close_52 : decode cZo_close 52 = .ok (.invokestatic 49, 3) := by decide +kernel
theorem dZo_close_55 : decode cZo_close 55 = .ok (.invokevirtual 45, 3) := by decide +kernel
theorem dZo_close_58 : decode cZo_close 58 = .ok (.iinc 3 1, 3) := by decide +kernel
theorem dZo_close_61 : decode cZo_close 61 = .ok (.goto (-32), 3) := by decide +kernel
theorem dZo_close_64 : decode cZo_close 64 = .ok (.iinc 2 1, 3) := by decide +kernel
theorem dZo_close_67 : decode cZo_close 67 = .ok (.goto (-48), 3) := by decide +kernel
theorem dZo_close_70 : decode cZo_close 70 = .ok (.aload_n 0, 1) := by decide +kernel
theorem dZo_close_71 : decode cZo_close 71 = .ok (.aload_n 0, 1) := by decide +kernel
theorem dZo_close_72 : decode cZo_close 72 = .ok (.invokevirtual 64, 3) := by decide +kernel
theorem dZo_close_75 : decode cZo_close 75 = .ok (.putfield 26, 3) := by decide +kernel
theorem dZo_close_78 : decode cZo_close 78 = .ok (.iinc 1 1, 3) := by decide +kernel
theorem dZo_close_81 : decode cZo_close 81 = .ok (.goto (-79), 3) := by decide +kernel
theorem dZo_close_84 : decode cZo_close 84 = .ok (.return_, 1) := by decide +kernel
theorem dZo_isBroken_0 : decode cZo_isBroken 0 = .ok (.iconst 0, 1) := by decide +kernel
theorem dZo_isBroken_1 : decode cZo_isBroken 1 = .ok (.istore_n 1, 1) := by decide +kernel
theorem dZo_isBroken_2 : decode cZo_isBroken 2 = .ok (.iload_n 1, 1) := by decide +kernel
theorem dZo_isBroken_3 : decode cZo_isBroken 3 = .ok (.aload_n 0, 1) := by decide +kernel
theorem dZo_isBroken_4 : decode cZo_isBroken 4 = .ok (.getfield 9, 3) := by decide +kernel
theorem dZo_isBroken_7 : decode cZo_isBroken 7 = .ok (.if_icmp .ge 21, 3) := by decide +kernel
theorem dZo_isBroken_10 : decode cZo_isBroken 10 = .ok (.aload_n 0, 1) := by decide +kernel
theorem dZo_isBroken_11 : decode cZo_isBroken 11 = .ok (.iload_n 1, 1) := by decide +kernel
theorem dZo_isBroken_12 : decode cZo_isBroken 12 = .ok (.iload_n 1, 1) := by decide +kernel
theorem dZo_isBroken_13 : decode cZo_isBroken 13 = .ok (.invokevirtual 36, 3) := by decide +kernel
theorem dZo_isBroken_16 : decode cZo_isBroken 16 = .ok (.iconst 1, 1) := by decide +kernel
theorem dZo_isBroken_17 : decode cZo_isBroken 17 = .ok (.if_icmp .ge 5, 3) := by decide +kernel
theorem dZo_isBroken_20 : decode cZo_isBroken 20 = .ok (.iconst 1, 1) := by decide +kernel
theorem dZo_isBroken_21 : decode cZo_isBroken 21 = .ok (.ireturn, 1) := by decide +kernel
theorem dZo_isBroken_22 : decode cZo_isBroken 22 = .ok (.iinc 1 1, 3) := by decide +kernel
theorem dZo_isBroken_25 : decode cZo_isBroken 25 = .ok (.goto (-23), 3) := by decide +kernel
theorem dZo_isBroken_28 : decode cZo_isBroken 28 = .ok (.iconst 0, 1) := by decide +kernel
theorem dZo_isBroken_29 : decode cZo_isBroken 29 = .ok (.ireturn, 1) := by decide +kernel
theorem dZo_liesIn_0 : decode cZo_liesIn 0 = .ok (.aload_n 0, 1) := by decide +kernel
theorem dZo_liesIn_1 : decode cZo_liesIn 1 = .ok (.getfield 26, 3) := by decide +kernel
theorem dZo_liesIn_4 : decode cZo_liesIn 4 = .ok (.ifCond .ne 10, 3) := by decide +kernel
theorem dZo_liesIn_7 : decode cZo_liesIn 7 = .ok (.aload_n 1, 1) := by decide +kernel
theorem dZo_liesIn_8 : decode cZo_liesIn 8 = .ok (.getfield 26, 3) := by decide +kernel
theorem dZo_liesIn_11 : decode cZo_liesIn 11 = .ok (.ifCond .eq 8, 3) := by decide +kernel
theorem dZo_liesIn_14 : decode cZo_liesIn 14 = .ok (.aload_n 0, 1) := by decide +kernel
theorem dZo_liesIn_15 : decode cZo_liesIn 15 = .ok (.getfield 26, 3) := by decide +kernel
theorem dZo_liesIn_18 : decode cZo_liesIn 18 = .ok (.ireturn, 1) := by decide +kernel
theorem dZo_liesIn_19 : decode cZo_liesIn 19 = .ok (.aload_n 1, 1) := by decide +kernel
theorem dZo_liesIn_20 : decode cZo_liesIn 20 = .ok (.getfield 9, 3) := by decide +kernel
theorem dZo_liesIn_23 : decode cZo_liesIn 23 = .ok (.aload_n 0, 1) := by decide +kernel
theorem dZo_liesIn_24 : decode cZo_liesIn 24 = .ok (.getfield 9, 3) := by decide +kernel
theorem dZo_liesIn_27 : decode cZo_liesIn 27 = .ok (.if_icmp .eq 5, 3) := by decide +kernel
theorem dZo_liesIn_30 : decode cZo_liesIn 30 = .ok (.iconst 0, 1) := by decide +kernel
theorem dZo_liesIn_31 : decode cZo_liesIn 31 = .ok (.ireturn, 1) := by decide +kernel
theorem dZo_liesIn_32 : decode cZo_liesIn 32 = .ok (.iconst 0, 1) := by decide +kernel
theorem dZo_liesIn_33 : decode cZo_liesIn 33 = .ok (.istore_n 2, 1) := by decide +kernel
theorem dZo_liesIn_34 : decode cZo_liesIn 34 = .ok (.iload_n 2, 1) := by decide +kernel
theorem dZo_liesIn_35 : decode cZo_liesIn 35 = .ok (.aload_n 0, 1) := by decide +kernel
theorem dZo_liesIn_36 : decode cZo_liesIn 36 = .ok (.getfield 15, 3) := by decide +kernel
theorem dZo_liesIn_39 : decode cZo_liesIn 39 = .ok (.arraylength, 1) := by decide +kernel
theorem dZo_liesIn_40 : decode cZo_liesIn 40 = .ok (.if_icmp .ge 26, 3) := by decide +kernel
theorem dZo_liesIn_43 : decode cZo_liesIn 43 = .ok (.aload_n 0, 1) := by decide +kernel
theorem dZo_liesIn_44 : decode cZo_liesIn 44 = .ok (.getfield 15, 3) := by decide +kernel
theorem dZo_liesIn_47 : decode cZo_liesIn 47 = .ok (.iload_n 2, 1) := by decide +kernel
theorem dZo_liesIn_48 : decode cZo_liesIn 48 = .ok (.iaload, 1) := by decide +kernel
theorem dZo_liesIn_49 : decode cZo_liesIn 49 = .ok (.aload_n 1, 1) := by decide +kernel
theorem dZo_liesIn_50 : decode cZo_liesIn 50 = .ok (.getfield 15, 3) := by decide +kernel
theorem dZo_liesIn_53 : decode cZo_liesIn 53 = .ok (.iload_n 2, 1) := by decide +kernel
theorem dZo_liesIn_54 : decode cZo_liesIn 54 = .ok (.iaload, 1) := by decide +kernel
theorem dZo_liesIn_55 : decode cZo_liesIn 55 = .ok (.if_icmp .le 5, 3) := by decide +kernel
theorem dZo_liesIn_58 : decode cZo_liesIn 58 = .ok (.iconst 0, 1) := by decide +kernel
theorem dZo_liesIn_59 : decode cZo_liesIn 59 = .ok (.ireturn, 1) := by decide +kernel
theorem dZo_liesIn_60 : decode cZo_liesIn 60 = .ok (.iinc 2 1, 3) := by decide +kernel
theorem dZo_liesIn_63 : decode cZo_liesIn 63 = .ok (.goto (-29), 3) := by decide +kernel
theorem dZo_liesIn_66 : decode cZo_liesIn 66 = .ok (.iconst 1, 1) := by decide +kernel
theorem dZo_liesIn_67 : decode cZo_liesIn 67 = .ok (.ireturn, 1) := by decide +kernel
theorem dTi_init_0 : decode cTi_init 0 = .ok (.aload_n 0, 1) := by decide +kernel
theorem dTi_init_1 : decode cTi_init 1 = .ok (.invokespecial 1, 3) := by decide +kernel
theorem dTi_init_4 : decode cTi_init 4 = .ok (.aload_n 0, 1) := by decide +kernel
theorem dTi_init_5 : decode cTi_init 5 = .ok (.new 7, 3) := by decide +kernel
theorem dTi_init_8 : decode cTi_init 8 = .ok (.dup, 1) := by decide +kernel
theorem dTi_init_9 : decode cTi_init 9 = .ok (.invokespecial 9, 3) := by decide +kernel
theorem dTi_init_12 : decode cTi_init 12 = .ok (.putfield 10, 3) := by decide +kernel
theorem dTi_init_15 : decode cTi_init 15 = .ok (.aload_n 0, 1) := by decide +kernel
theorem dTi_init_16 : decode cTi_init 16 = .ok (.new 16, 3) := by decide +kernel
theorem dTi_init_19 : decode cTi_init 19 = .ok (.dup, 1) := by decide +kernel
theorem dTi_init_20 : decode cTi_init 20 = .ok (.iconst 0, 1) := by decide +kernel
theorem dTi_init_21 : decode cTi_init 21 = .ok (.invokespecial 18, 3) := by decide +kernel
theorem dTi_init_24 : decode cTi_init 24 = .ok (.putfield 21, 3) := by decide +kernel
theorem dTi_init_27 : decode cTi_init 27 = .ok (.aload_n 0, 1) := by decide +kernel
theorem dTi_init_28 : decode cTi_init 28 = .ok (.getfield 21, 3) := by decide +kernel
theorem dTi_init_31 : decode cTi_init 31 = .ok (.invokevirtual 25, 3) := by decide +kernel
theorem dTi_init_34 : decode cTi_init 34 = .ok (.aload_n 0, 1) := by decide +kernel
theorem dTi_init_35 : decode cTi_init 35 = .ok (.iconst 4, 1) := by decide +kernel
theorem dTi_init_36 : decode cTi_init 36 = .ok (.newarray .int, 2) := by decide +kernel
theorem dTi_init_38 : decode cTi_init 38 = .ok (.putfield 28, 3) := by decide +kernel
theorem dTi_init_41 : decode cTi_init 41 = .ok (.aload_n 0, 1) := by decide +kernel
theorem dTi_init_42 : decode cTi_init 42 = .ok (.bipush 8, 2) := by decide +kernel
theorem dTi_init_44 : decode cTi_init 44 = .ok (.anewarray 32, 3) := by decide +kernel
theorem dTi_init_47 : decode cTi_init 47 = .ok (.putfield 34, 3) := by decide +kernel
theorem dTi_init_50 : decode cTi_init 50 = .ok (.return_, 1) := by decide +kernel
theorem dTi_machine_0 : decode cTi_machine 0 = .ok (.aload_n 0, 1) := by decide +kernel
theorem dTi_machine_1 : decode cTi_machine 1 = .ok (.getfield 10, 3) := by decide +kernel
theorem dTi_machine_4 : decode cTi_machine 4 = .ok (.getfield 38, 3) := by decide +kernel
theorem dTi_machine_7 : decode cTi_machine 7 = .ok (.iconst 3, 1) := by decide +kernel
theorem dTi_machine_8 : decode cTi_machine 8 = .ok (.if_icmp .lt 6, 3) := by decide +kernel
theorem dTi_machine_11 : decode cTi_machine 11 = .ok (.bipush (-2), 2) := by decide +kernel
theorem dTi_machine_13 : decode cTi_machine 13 = .ok (.ireturn, 1) := by decide +kernel
theorem dTi_machine_14 : decode cTi_machine 14 = .ok (.aload_n 0, 1) := by decide +kernel
theorem dTi_machine_15 : decode cTi_machine 15 = .ok (.getfield 10, 3) := by decide +kernel
theorem dTi_machine_18 : decode cTi_machine 18 = .ok (.getfield 42, 3) := by decide +kernel
theorem dTi_machine_21 : decode cTi_machine 21 = .ok (.aload_n 0, 1) := by decide +kernel
theorem dTi_machine_22 : decode cTi_machine 22 = .ok (.getfield 10, 3) := by decide +kernel
theorem dTi_machine_25 : decode cTi_machine 25 = .ok (.getfield 38, 3) := by decide +kernel
theorem dTi_machine_28 : decode cTi_machine 28 = .ok (.new 46, 3) := by decide +kernel
theorem dTi_machine_31 : decode cTi_machine 31 = .ok (.dup, 1) := by decide +kernel
theorem dTi_machine_32 : decode cTi_machine 32 = .ok (.invokespecial 48, 3) := by decide +kernel
theorem dTi_machine_35 : decode cTi_machine 35 = .ok (.aastore, 1) := by decide +kernel
theorem dTi_machine_36 : decode cTi_machine 36 = .ok (.aload_n 0, 1) := by decide +kernel
theorem dTi_machine_37 : decode cTi_machine 37 = .ok (.getfield 10, 3) := by decide +kernel
theorem dTi_machine_40 : decode cTi_machine 40 = .ok (.dup, 1) := by decide +kernel
theorem dTi_machine_41 : decode cTi_machine 41 = .ok (.getfield 38, 3) := by decide +kernel
theorem dTi_machine_44 : decode cTi_machine 44 = .ok (.iconst 1, 1) := by decide +kernel
theorem dTi_machine_45 : decode cTi_machine 45 = .ok (.iadd, 1) := by decide +kernel
theorem dTi_machine_46 : decode cTi_machine 46 = .ok (.putfield 38, 3) := by decide +kernel
theorem dTi_machine_49 : decode cTi_machine 49 = .ok (.aload_n 0, 1) := by decide +kernel
theorem dTi_machine_50 : decode cTi_machine 50 = .ok (.getfield 10, 3) := by decide +kernel
theorem dTi_machine_53 : decode cTi_machine 53 = .ok (.getfield 38, 3) := by decide +kernel
theorem dTi_machine_56 : decode cTi_machine 56 = .ok (.iconst 1, 1) := by decide +kernel
theorem dTi_machine_57 : decode cTi_machine 57 = .ok (.isub, 1) := by decide +kernel
theorem dTi_machine_58 : decode cTi_machine 58 = .ok (.ireturn, 1) := by decide +kernel
theorem dTi_place_0 : decode cTi_place 0 = .ok (.aload_n 0, 1) := by decide +kernel
theorem dTi_place_1 : decode cTi_place 1 = .ok (.getfield 10, 3) := by decide +kernel
theorem dTi_place_4 : decode cTi_place 4 = .ok (.iload_n 1, 1) := by decide +kernel
theorem dTi_place_5 : decode cTi_place 5 = .ok (.invokevirtual 49, 3) := by decide +kernel
theorem dTi_place_8 : decode cTi_place 8 = .ok (.astore_n 2, 1) := by decide +kernel
theorem dTi_place_9 : decode cTi_place 9 = .ok (.aload_n 2, 1) := by decide +kernel
theorem dTi_place_10 : decode cTi_place 10 = .ok (.ifnonnull 5, 3) := by decide +kernel
theorem dTi_place_13 : decode cTi_place 13 = .ok (.iconst (-1), 1) := by decide +kernel
theorem dTi_place_14 : decode cTi_place 14 = .ok (.ireturn, 1) := by decide +kernel
theorem dTi_place_15 : decode cTi_place 15 = .ok (.aload_n 2, 1) := by decide +kernel
theorem dTi_place_16 : decode cTi_place 16 = .ok (.getfield 53, 3) := by decide +kernel
theorem dTi_place_19 : decode cTi_place 19 = .ok (.bipush 6, 2) := by decide +kernel
theorem dTi_place_21 : decode cTi_place 21 = .ok (.if_icmp .lt 6, 3) := by decide +kernel
theorem dTi_place_24 : decode cTi_place 24 = .ok (.bipush (-2), 2) := by decide +kernel
theorem dTi_place_26 : decode cTi_place 26 = .ok (.ireturn, 1) := by decide +kernel
theorem dTi_place_27 : decode cTi_place 27 = .ok (.aload_n 2, 1) := by decide +kernel
theorem dTi_place_28 : decode cTi_place 28 = .ok (.getfield 56, 3) := by decide +kernel
theorem dTi_place_31 : decode cTi_place 31 = .ok (.aload_n 2, 1) := by decide +kernel
theorem dTi_place_32 : decode cTi_place 32 = .ok (.getfield 53, 3) := by decide +kernel
theorem dTi_place_35 : decode cTi_place 35 = .ok (.new 60, 3) := by decide +kernel
theorem dTi_place_38 : decode cTi_place 38 = .ok (.dup, 1) := by decide +kernel
theorem dTi_place_39 : decode cTi_place 39 = .ok (.invokespecial 62, 3) := by decide +kernel
theorem dTi_place_42 : decode cTi_place 42 = .ok (.aastore, 1) := by decide +kernel
theorem dTi_place_43 : decode cTi_place 43 = .ok (.aload_n 2, 1) := by decide +kernel
theorem dTi_place_44 : decode cTi_place 44 = .ok (.dup, 1) := by decide +kernel
theorem dTi_place_45 : decode cTi_place 45 = .ok (.getfield 53, 3) := by decide +kernel
theorem dTi_place_48 : decode cTi_place 48 = .ok (.iconst 1, 1) := by decide +kernel
theorem dTi_place_49 : decode cTi_place 49 = .ok (.iadd, 1) := by decide +kernel
theorem dTi_place_50 : decode cTi_place 50 = .ok (.putfield 53, 3) := by decide +kernel
theorem dTi_place_53 : decode cTi_place 53 = .ok (.aload_n 2, 1) := by decide +kernel
theorem dTi_place_54 : decode cTi_place 54 = .ok (.getfield 53, 3) := by decide +kernel
theorem dTi_place_57 : decode cTi_place 57 = .ok (.iconst 1, 1) := by decide +kernel
theorem dTi_place_58 : decode cTi_place 58 = .ok (.isub, 1) := by decide +kernel
theorem dTi_place_59 : decode cTi_place 59 = .ok (.ireturn, 1) := by decide +kernel
theorem dTi_limit_0 : decode cTi_limit 0 = .ok (.aload_n 0, 1) := by decide +kernel
theorem dTi_limit_1 : decode cTi_limit 1 = .ok (.getfield 10, 3) := by decide +kernel
theorem dTi_limit_4 : decode cTi_limit 4 = .ok (.iload_n 1, 1) := by decide +kernel
theorem dTi_limit_5 : decode cTi_limit 5 = .ok (.iload_n 2, 1) := by decide +kernel
theorem dTi_limit_6 : decode cTi_limit 6 = .ok (.invokevirtual 63, 3) := by decide +kernel
theorem dTi_limit_9 : decode cTi_limit 9 = .ok (.astore 6, 2) := by decide +kernel
theorem dTi_limit_11 : decode cTi_limit 11 = .ok (.aload 6, 2) := by decide +kernel
theorem dTi_limit_13 : decode cTi_limit 13 = .ok (.ifnull 25, 3) := by decide +kernel
theorem dTi_limit_16 : decode cTi_limit 16 = .ok (.iload_n 3, 1) := by decide +kernel
theorem dTi_limit_17 : decode cTi_limit 17 = .ok (.ifCond .eq 21, 3) := by decide +kernel
theorem dTi_limit_20 : decode cTi_limit 20 = .ok (.iload_n 3, 1) := by decide +kernel
theorem dTi_limit_21 : decode cTi_limit 21 = .ok (.invokestatic 67, 3) := by decide +kernel
theorem dTi_limit_24 : decode cTi_limit 24 = .ok (.ifCond .eq 14, 3) := by decide +kernel
theorem dTi_limit_27 : decode cTi_limit 27 = .ok (.iload 4, 2) := by decide +kernel
theorem dTi_limit_29 : decode cTi_limit 29 = .ok (.iconst 0, 1) := by decide +kernel
theorem dTi_limit_30 : decode cTi_limit 30 = .ok (.bipush 100, 2) := by decide +kernel
theorem dTi_limit_32 : decode cTi_limit 32 = .ok (.invokestatic 71, 3) := by decide +kernel
theorem dTi_limit_35 : decode cTi_limit 35 = .ok (.ifCond .ne 5, 3) := by decide +kernel
theorem dTi_limit_38 : decode cTi_limit 38 = .ok (.iconst (-1), 1) := by decide +kernel
theorem dTi_limit_39 : decode cTi_limit 39 = .ok (.ireturn, 1) := by decide +kernel
theorem dTi_limit_40 : decode cTi_limit 40 = .ok (.aload 6, 2) := by decide +kernel
theorem dTi_limit_42 : decode cTi_limit 42 = .ok (.getfield 75, 3) := by decide +kernel
theorem dTi_limit_45 : decode cTi_limit 45 = .ok (.iconst 2, 1) := by decide +kernel
theorem dTi_limit_46 : decode cTi_limit 46 = .ok (.if_icmp .lt 6, 3) := by decide +kernel
theorem dTi_limit_49 : decode cTi_limit 49 = .ok (.bipush (-2), 2) := by decide +kernel
theorem dTi_limit_51 : decode cTi_limit 51 = .ok (.ireturn, 1) := by decide +kernel
theorem dTi_limit_52 : decode cTi_limit 52 = .ok (.aload 6, 2) := by decide +kernel
theorem dTi_limit_54 : decode cTi_limit 54 = .ok (.getfield 78, 3) := by decide +kernel
theorem dTi_limit_57 : decode cTi_limit 57 = .ok (.aload 6, 2) := by decide +kernel
theorem dTi_limit_59 : decode cTi_limit 59 = .ok (.getfield 75, 3) := by decide +kernel
theorem dTi_limit_62 : decode cTi_limit 62 = .ok (.iload_n 3, 1) := by decide +kernel
theorem dTi_limit_63 : decode cTi_limit 63 = .ok (.iastore, 1) := by decide +kernel
theorem dTi_limit_64 : decode cTi_limit 64 = .ok (.aload 6, 2) := by decide +kernel
theorem dTi_limit_66 : decode cTi_limit 66 = .ok (.getfield 81, 3) := by decide +kernel
theorem dTi_limit_69 : decode cTi_limit 69 = .ok (.aload 6, 2) := by decide +kernel
theorem dTi_limit_71 : decode cTi_limit 71 = .ok (.getfield 75, 3) := by decide +kernel
theorem dTi_limit_74 : decode cTi_limit 74 = .ok (.iload 4, 2) := by decide +kernel
theorem dTi_limit_76 : decode cTi_limit 76 = .ok (.iload 5, 2) := by decide +kernel
theorem dTi_limit_78 : decode cTi_limit 78 = .ok (.invokestatic 84, 3) := by decide +kernel
theorem dTi_limit_81 : decode cTi_limit 81 = .ok (.iastore, 1) := by decide +kernel
theorem dTi_limit_82 : decode cTi_limit 82 = .ok (.aload 6, 2) := by decide +kernel
theorem dTi_limit_84 : decode cTi_limit 84 = .ok (.dup, 1) := by decide +kernel
theorem dTi_limit_85 : decode cTi_limit 85 = .ok (.getfield 75, 3) := by decide +kernel
theorem dTi_limit_88 : decode cTi_limit 88 = .ok (.iconst 1, 1) := by decide +kernel
theorem dTi_limit_89 : decode cTi_limit 89 = .ok (.iadd, 1) := by decide +kernel
theorem dTi_limit_90 : decode cTi_limit 90 = .ok (.putfield 75, 3) := by decide +kernel
theorem dTi_limit_93 : decode cTi_limit 93 = .ok (.aload 6, 2) := by decide +kernel
theorem dTi_limit_95 : decode cTi_limit 95 = .ok (.getfield 75, 3) := by decide +kernel
theorem dTi_limit_98 : decode cTi_limit 98 = .ok (.ireturn, 1) := by decide +kernel
theorem dTi_way_0 : decode cTi_way 0 = .ok (.aload_n 0, 1) := by decide +kernel
theorem dTi_way_1 : decode cTi_way 1 = .ok (.getfield 10, 3) := by decide +kernel
theorem dTi_way_4 : decode cTi_way 4 = .ok (.iload_n 1, 1) := by decide +kernel
theorem dTi_way_5 : decode cTi_way 5 = .ok (.invokevirtual 49, 3) := by decide +kernel
theorem dTi_way_8 : decode cTi_way 8 = .ok (.astore 6, 2) := by decide +kernel
theorem dTi_way_10 : decode cTi_way 10 = .ok (.aload 6, 2) := by decide +kernel
theorem dTi_way_12 : decode cTi_way 12 = .ok (.ifnull 27, 3) := by decide +kernel
theorem dTi_way_15 : decode cTi_way 15 = .ok (.aload_n 0, 1) := by decide +kernel
theorem dTi_way_16 : decode cTi_way 16 = .ok (.getfield 10, 3) := by decide +kernel
theorem dTi_way_19 : decode cTi_way 19 = .ok (.iload_n 1, 1) := by decide +kernel
theorem dTi_way_20 : decode cTi_way 20 = .ok (.iload_n 2, 1) := by decide +kernel
theorem dTi_way_21 : decode cTi_way 21 = .ok (.invokevirtual 63, 3) := by decide +kernel
theorem dTi_way_24 : decode cTi_way 24 = .ok (.ifnull 15, 3) := by decide +kernel
theorem dTi_way_27 : decode cTi_way 27 = .ok (.aload_n 0, 1) := by decide +kernel
theorem dTi_way_28 : decode cTi_way 28 = .ok (.getfield 10, 3) := by decide +kernel
theorem dTi_way_31 : decode cTi_way 31 = .ok (.iload_n 1, 1) := by decide +kernel
theorem dTi_way_32 : decode cTi_way 32 = .ok (.iload_n 3, 1) := by decide +kernel
theorem dTi_way_33 : decode cTi_way 33 = .ok (.invokevirtual 63, 3) := by decide +kernel
theorem dTi_way_36 : decode cTi_way 36 = .ok (.ifnonnull 5, 3) := by decide +kernel
theorem dTi_way_39 : decode cTi_way 39 = .ok (.iconst (-1), 1) := by decide +kernel
theorem dTi_way_40 : decode cTi_way 40 = .ok (.ireturn, 1) := by decide +kernel
theorem dTi_way_41 : decode cTi_way 41 = .ok (.iload 4, 2) := by decide +kernel
theorem dTi_way_43 : decode cTi_way 43 = .ok (.bipush (-9), 2) := by decide +kernel
theorem dTi_way_45 : decode cTi_way 45 = .ok (.bipush 9, 2) := by decide +kernel
theorem dTi_way_47 : decode cTi_way 47 = .ok (.invokestatic 71, 3) := by decide +kernel
theorem dTi_way_50 : decode cTi_way 50 = .ok (.ifCond .eq 14, 3) := by decide +kernel
theorem dTi_way_53 : decode cTi_way 53 = .ok (.iload 5, 2) := by decide +kernel
theorem dTi_way_55 : decode cTi_way 55 = .ok (.iconst 0, 1) := by decide +kernel
theorem dTi_way_56 : decode cTi_way 56 = .ok (.bipush 7, 2) := by decide +kernel
theorem dTi_way_58 : decode cTi_way 58 = .ok (.invokestatic 71, 3) := by decide +kernel
theorem dTi_way_61 : decode cTi_way 61 = .ok (.ifCond .ne 5, 3) := by decide +kernel
theorem dTi_way_64 : decode cTi_way 64 = .ok (.iconst (-1), 1) := by decide +kernel
theorem dTi_way_65 : decode cTi_way 65 = .ok (.ireturn, 1) := by decide +kernel
theorem dTi_way_66 : decode cTi_way 66 = .ok (.aload 6, 2) := by decide +kernel
theorem dTi_way_68 : decode cTi_way 68 = .ok (.getfield 88, 3) := by decide +kernel
theorem dTi_way_71 : decode cTi_way 71 = .ok (.bipush 12, 2) := by decide +kernel
theorem dTi_way_73 : decode cTi_way 73 = .ok (.if_icmp .lt 6, 3) := by decide +kernel
theorem dTi_way_76 : decode cTi_way 76 = .ok (.bipush (-2), 2) := by decide +kernel
theorem dTi_way_78 : decode cTi_way 78 = .ok (.ireturn, 1) := by decide +kernel
theorem dTi_way_79 : decode cTi_way 79 = .ok (.aload 6, 2) := by decide +kernel
theorem dTi_way_81 : decode cTi_way 81 = .ok (.getfield 91, 3) := by decide +kernel
theorem dTi_way_84 : decode cTi_way 84 = .ok (.aload 6, 2) := by decide +kernel
theorem dTi_way_86 : decode cTi_way 86 = .ok (.getfield 88, 3) := by decide +kernel
theorem dTi_way_89 : decode cTi_way 89 = .ok (.new 95, 3) := by decide +kernel
theorem dTi_way_92 : decode cTi_way 92 = .ok (.dup, 1) := by decide +kernel
theorem dTi_way_93 : decode cTi_way 93 = .ok (.iload_n 2, 1) := by decide +kernel
theorem dTi_way_94 : decode cTi_way 94 = .ok (.iload_n 3, 1) := by decide +kernel
theorem dTi_way_95 : decode cTi_way 95 = .ok (.iload 4, 2) := by decide +kernel
theorem dTi_way_97 : decode cTi_way 97 = .ok (.iload 5, 2) := by decide +kernel
theorem dTi_way_99 : decode cTi_way 99 = .ok (.invokespecial 97, 3) := by decide +kernel
theorem dTi_way_102 : decode cTi_way 102 = .ok (.aastore, 1) := by decide +kernel
theorem dTi_way_103 : decode cTi_way 103 = .ok (.aload 6, 2) := by decide +kernel
theorem dTi_way_105 : decode cTi_way 105 = .ok (.dup, 1) := by decide +kernel
theorem dTi_way_106 : decode cTi_way 106 = .ok (.getfield 88, 3) := by decide +kernel
theorem dTi_way_109 : decode cTi_way 109 = .ok (.iconst 1, 1) := by decide +kernel
theorem dTi_way_110 : decode cTi_way 110 = .ok (.iadd, 1) := by decide +kernel
theorem dTi_way_111 : decode cTi_way 111 = .ok (.putfield 88, 3) := by decide +kernel
theorem dTi_way_114 : decode cTi_way 114 = .ok (.aload 6, 2) := by decide +kernel
theorem dTi_way_116 : decode cTi_way 116 = .ok (.getfield 88, 3) := by decide +kernel
theorem dTi_way_119 : decode cTi_way 119 = .ok (.iconst 1, 1) := by decide +kernel
theorem dTi_way_120 : decode cTi_way 120 = .ok (.isub, 1) := by decide +kernel
theorem dTi_way_121 : decode cTi_way 121 = .ok (.ireturn, 1) := by decide +kernel
theorem dTi_test_0 : decode cTi_test 0 = .ok (.aload_n 0, 1) := by decide +kernel
theorem dTi_test_1 : decode cTi_test 1 = .ok (.getfield 10, 3) := by decide +kernel
theorem dTi_test_4 : decode cTi_test 4 = .ok (.iload_n 1, 1) := by decide +kernel
theorem dTi_test_5 : decode cTi_test 5 = .ok (.iload_n 2, 1) := by decide +kernel
theorem dTi_test_6 : decode cTi_test 6 = .ok (.invokevirtual 100, 3) := by decide +kernel
theorem dTi_test_9 : decode cTi_test 9 = .ok (.astore 6, 2) := by decide +kernel
theorem dTi_test_11 : decode cTi_test 11 = .ok (.aload 6, 2) := by decide +kernel
theorem dTi_test_13 : decode cTi_test 13 = .ok (.ifnull 22, 3) := by decide +kernel
theorem dTi_test_16 : decode cTi_test 16 = .ok (.iload_n 3, 1) := by decide +kernel
theorem dTi_test_17 : decode cTi_test 17 = .ok (.invokestatic 104, 3) := by decide +kernel
theorem dTi_test_20 : decode cTi_test 20 = .ok (.ifCond .eq 15, 3) := by decide +kernel
theorem dTi_test_23 : decode cTi_test 23 = .ok (.iload 4, 2) := by decide +kernel
theorem dTi_test_25 : decode cTi_test 25 = .ok (.bipush (-100), 2) := by decide +kernel
theorem dTi_test_27 : decode cTi_test 27 = .ok (.bipush 100, 2) := by decide +kernel
theorem dTi_test_29 : decode cTi_test 29 = .ok (.invokestatic 71, 3) := by decide +kernel
theorem dTi_test_32 : decode cTi_test 32 = .ok (.ifCond .ne 5, 3) := by decide +kernel
theorem dTi_test_35 : decode cTi_test 35 = .ok (.iconst (-1), 1) := by decide +kernel
theorem dTi_test_36 : decode cTi_test 36 = .ok (.ireturn, 1) := by decide +kernel
theorem dTi_test_37 : decode cTi_test 37 = .ok (.aload 6, 2) := by decide +kernel
theorem dTi_test_39 : decode cTi_test 39 = .ok (.getfield 107, 3) := by decide +kernel
theorem dTi_test_42 : decode cTi_test 42 = .ok (.iconst 3, 1) := by decide +kernel
theorem dTi_test_43 : decode cTi_test 43 = .ok (.if_icmp .lt 6, 3) := by decide +kernel
theorem dTi_test_46 : decode cTi_test 46 = .ok (.bipush (-2), 2) := by decide +kernel
theorem dTi_test_48 : decode cTi_test 48 = .ok (.ireturn, 1) := by decide +kernel
theorem dTi_test_49 : decode cTi_test 49 = .ok (.aload 6, 2) := by decide +kernel
theorem dTi_test_51 : decode cTi_test 51 = .ok (.getfield 110, 3) := by decide +kernel
theorem dTi_test_54 : decode cTi_test 54 = .ok (.aload 6, 2) := by decide +kernel
theorem dTi_test_56 : decode cTi_test 56 = .ok (.getfield 107, 3) := by decide +kernel
theorem dTi_test_59 : decode cTi_test 59 = .ok (.iload_n 3, 1) := by decide +kernel
theorem dTi_test_60 : decode cTi_test 60 = .ok (.iastore, 1) := by decide +kernel
theorem dTi_test_61 : decode cTi_test 61 = .ok (.aload 6, 2) := by decide +kernel
theorem dTi_test_63 : decode cTi_test 63 = .ok (.getfield 113, 3) := by decide +kernel
theorem dTi_test_66 : decode cTi_test 66 = .ok (.aload 6, 2) := by decide +kernel
theorem dTi_test_68 : decode cTi_test 68 = .ok (.getfield 107, 3) := by decide +kernel
theorem dTi_test_71 : decode cTi_test 71 = .ok (.iload 4, 2) := by decide +kernel
theorem dTi_test_73 : decode cTi_test 73 = .ok (.iload 5, 2) := by decide +kernel
theorem dTi_test_75 : decode cTi_test 75 = .ok (.invokestatic 84, 3) := by decide +kernel
theorem dTi_test_78 : decode cTi_test 78 = .ok (.iastore, 1) := by decide +kernel
theorem dTi_test_79 : decode cTi_test 79 = .ok (.aload 6, 2) := by decide +kernel
theorem dTi_test_81 : decode cTi_test 81 = .ok (.dup, 1) := by decide +kernel
theorem dTi_test_82 : decode cTi_test 82 = .ok (.getfield 107, 3) := by decide +kernel
theorem dTi_test_85 : decode cTi_test 85 = .ok (.iconst 1, 1) := by decide +kernel
theorem dTi_test_86 : decode cTi_test 86 = .ok (.iadd, 1) := by decide +kernel
theorem dTi_test_87 : decode cTi_test 87 = .ok (.putfield 107, 3) := by decide +kernel
theorem dTi_test_90 : decode cTi_test 90 = .ok (.aload 6, 2) := by decide +kernel
theorem dTi_test_92 : decode cTi_test 92 = .ok (.getfield 107, 3) := by decide +kernel
theorem dTi_test_95 : decode cTi_test 95 = .ok (.ireturn, 1) := by decide +kernel
theorem dTi_walk_0 : decode cTi_walk 0 = .ok (.aload_n 0, 1) := by decide +kernel
theorem dTi_walk_1 : decode cTi_walk 1 = .ok (.getfield 10, 3) := by decide +kernel
theorem dTi_walk_4 : decode cTi_walk 4 = .ok (.invokevirtual 114, 3) := by decide +kernel
theorem dTi_walk_7 : decode cTi_walk 7 = .ok (.ifCond .ne 5, 3) := by decide +kernel
theorem dTi_walk_10 : decode cTi_walk 10 = .ok (.iconst (-1), 1) := by decide +kernel
theorem dTi_walk_11 : decode cTi_walk 11 = .ok (.ireturn, 1) := by decide +kernel
theorem dTi_walk_12 : decode cTi_walk 12 = .ok (.aload_n 0, 1) := by decide +kernel
theorem dTi_walk_13 : decode cTi_walk 13 = .ok (.getfield 10, 3) := by decide +kernel
theorem dTi_walk_16 : decode cTi_walk 16 = .ok (.invokevirtual 118, 3) := by decide +kernel
theorem dTi_walk_19 : decode cTi_walk 19 = .ok (.iconst 0, 1) := by decide +kernel
theorem dTi_walk_20 : decode cTi_walk 20 = .ok (.istore_n 1, 1) := by decide +kernel
theorem dTi_walk_21 : decode cTi_walk 21 = .ok (.iload_n 1, 1) := by decide +kernel
theorem dTi_walk_22 : decode cTi_walk 22 = .ok (.sipush 200, 3) := by decide +kernel
theorem dTi_walk_25 : decode cTi_walk 25 = .ok (.if_icmp .ge 47, 3) := by decide +kernel
theorem dTi_walk_28 : decode cTi_walk 28 = .ok (.aload_n 0, 1) := by decide +kernel
theorem dTi_walk_29 : decode cTi_walk 29 = .ok (.getfield 10, 3) := by decide +kernel
theorem dTi_walk_32 : decode cTi_walk 32 = .ok (.iload_n 1, 1) := by decide +kernel
theorem dTi_walk_33 : decode cTi_walk 33 = .ok (.invokevirtual 121, 3) := by decide +kernel
theorem dTi_walk_36 : decode cTi_walk 36 = .ok (.astore_n 2, 1) := by decide +kernel
theorem dTi_walk_37 : decode cTi_walk 37 = .ok (.aload_n 2, 1) := by decide +kernel
theorem dTi_walk_38 : decode cTi_walk 38 = .ok (.ifnonnull 6, 3) := by decide +kernel
theorem dTi_walk_41 : decode cTi_walk 41 = .ok (.goto 31, 3) := by decide +kernel
theorem dTi_walk_44 : decode cTi_walk 44 = .ok (.aload_n 0, 1) := by decide +kernel
theorem dTi_walk_45 : decode cTi_walk 45 = .ok (.getfield 10, 3) := by decide +kernel
theorem dTi_walk_48 : decode cTi_walk 48 = .ok (.aload_n 2, 1) := by decide +kernel
theorem dTi_walk_49 : decode cTi_walk 49 = .ok (.invokevirtual 125, 3) := by decide +kernel
theorem dTi_walk_52 : decode cTi_walk 52 = .ok (.ifCond .ne 14, 3) := by decide +kernel
theorem dTi_walk_55 : decode cTi_walk 55 = .ok (.bipush (-2), 2) := by decide +kernel
theorem dTi_walk_57 : decode cTi_walk 57 = .ok (.aload_n 0, 1) := by decide +kernel
theorem dTi_walk_58 : decode cTi_walk 58 = .ok (.getfield 10, 3) := by decide +kernel
theorem dTi_walk_61 : decode cTi_walk 61 = .ok (.getfield 129, 3) := by decide +kernel
theorem dTi_walk_64 : decode cTi_walk 64 = .ok (.isub, 1) := by decide +kernel
theorem dTi_walk_65 : decode cTi_walk 65 = .ok (.ireturn, 1) := by decide +kernel
theorem dTi_walk_66 : decode cTi_walk 66 = .ok (.iinc 1 1, 3) := by decide +kernel
theorem dTi_walk_69 : decode cTi_walk 69 = .ok (.goto (-48), 3) := by decide +kernel
theorem dTi_walk_72 : decode cTi_walk 72 = .ok (.aload_n 0, 1) := by decide +kernel
theorem dTi_walk_73 : decode cTi_walk 73 = .ok (.getfield 10, 3) := by decide +kernel
theorem dTi_walk_76 : decode cTi_walk 76 = .ok (.getfield 129, 3) := by decide +kernel
theorem dTi_walk_79 : decode cTi_walk 79 = .ok (.ireturn, 1) := by decide +kernel
theorem dTi_state_0 : decode cTi_state 0 = .ok (.aload_n 0, 1) := by decide +kernel
theorem dTi_state_1 : decode cTi_state 1 = .ok (.getfield 10, 3) := by decide +kernel
theorem dTi_state_4 : decode cTi_state 4 = .ok (.iload_n 1, 1) := by decide +kernel
theorem dTi_state_5 : decode cTi_state 5 = .ok (.invokevirtual 121, 3) := by decide +kernel
theorem dTi_state_8 : decode cTi_state 8 = .ok (.astore_n 3, 1) := by decide +kernel
theorem dTi_state_9 : decode cTi_state 9 = .ok (.aload_n 3, 1) := by decide +kernel
theorem dTi_state_10 : decode cTi_state 10 = .ok (.ifnonnull 5, 3) := by decide +kernel
theorem dTi_state_13 : decode cTi_state 13 = .ok (.iconst (-1), 1) := by decide +kernel
theorem dTi_state_14 : decode cTi_state 14 = .ok (.ireturn, 1) := by decide +kernel
theorem dTi_state_15 : decode cTi_state 15 = .ok (.iload_n 2, 1) := by decide +kernel
theorem dTi_state_16 : decode cTi_state 16 = .ok (.tableswitch 87 0 6 #[44, 44, 44, 51, 56, 61, 82], 44) := by decide +kernel
theorem dTi_state_60 : decode cTi_state 60 = .ok (.aload_n 3, 1) := by decide +kernel
theorem dTi_state_61 : decode cTi_state 61 = .ok (.getfield 132, 3) := by decide +kernel
theorem dTi_state_64 : decode cTi_state 64 = .ok (.iload_n 2, 1) := by decide +kernel
theorem dTi_state_65 : decode cTi_state 65 = .ok (.iaload, 1) := by decide +kernel
theorem dTi_state_66 : decode cTi_state 66 = .ok (.ireturn, 1) := by decide +kernel
theorem dTi_state_67 : decode cTi_state 67 = .ok (.aload_n 3, 1) := by decide +kernel
theorem dTi_state_68 : decode cTi_state 68 = .ok (.getfield 136, 3) := by decide +kernel
theorem dTi_state_71 : decode cTi_state 71 = .ok (.ireturn, 1) := by decide +kernel
theorem dTi_state_72 : decode cTi_state 72 = .ok (.aload_n 3, 1) := by decide +kernel
theorem dTi_state_73 : decode cTi_state 73 = .ok (.getfield 139, 3) := by decide +kernel
theorem dTi_state_76 : decode cTi_state 76 = .ok (.ireturn, 1) := by decide +kernel
theorem dTi_state_77 : decode cTi_state 77 = .ok (.iload_n 1, 1) := by decide +kernel
theorem dTi_state_78 : decode cTi_state 78 = .ok (.aload_n 0, 1) := by decide +kernel
theorem dTi_state_79 : decode cTi_state 79 = .ok (.getfield 10, 3) := by decide +kernel
theorem dTi_state_82 : decode cTi_state 82 = .ok (.getfield 142, 3) := by decide +kernel
theorem dTi_state_85 : decode cTi_state 85 = .ok (.if_icmp .ge 10, 3) := by decide +kernel
theorem dTi_state_88 : decode cTi_state 88 = .ok (.aload_n 3, 1) := by decide +kernel
theorem dTi_state_89 : decode cTi_state 89 = .ok (.getfield 145, 3) := by decide +kernel
theorem dTi_state_92 : decode cTi_state 92 = .ok (.goto 5, 3) := by decide +kernel
theorem dTi_state_95 : decode cTi_state 95 = .ok (.bipush (-2), 2) := by decide +kernel
theorem dTi_state_97 : decode cTi_state 97 = .ok (.ireturn, 1) := by decide +kernel
theorem dTi_state_98 : decode cTi_state 98 = .ok (.aload_n 3, 1) := by decide +kernel
theorem dTi_state_99 : decode cTi_state 99 = .ok (.getfield 148, 3) := by decide +kernel
theorem dTi_state_102 : decode cTi_state 102 = .ok (.ireturn, 1) := by decide +kernel
theorem dTi_state_103 : decode cTi_state 103 = .ok (.iconst (-1), 1) := by decide +kernel
theorem dTi_state_104 : decode cTi_state 104 = .ok (.ireturn, 1) := by decide +kernel
theorem dTi_bound_0 : decode cTi_bound 0 = .ok (.aload_n 0, 1) := by decide +kernel
theorem dTi_bound_1 : decode cTi_bound 1 = .ok (.getfield 10, 3) := by decide +kernel
theorem dTi_bound_4 : decode cTi_bound 4 = .ok (.iload_n 1, 1) := by decide +kernel
theorem dTi_bound_5 : decode cTi_bound 5 = .ok (.invokevirtual 121, 3) := by decide +kernel
theorem dTi_bound_8 : decode cTi_bound 8 = .ok (.astore 4, 2) := by decide +kernel
theorem dTi_bound_10 : decode cTi_bound 10 = .ok (.aload 4, 2) := by decide +kernel
theorem dTi_bound_12 : decode cTi_bound 12 = .ok (.ifnull 17, 3) := by decide +kernel
theorem dTi_bound_15 : decode cTi_bound 15 = .ok (.iload_n 2, 1) := by decide +kernel
theorem dTi_bound_16 : decode cTi_bound 16 = .ok (.invokestatic 67, 3) := by decide +kernel
theorem dTi_bound_19 : decode cTi_bound 19 = .ok (.ifCond .eq 10, 3) := by decide +kernel
theorem dTi_bound_22 : decode cTi_bound 22 = .ok (.iload_n 3, 1) := by decide +kernel
theorem dTi_bound_23 : decode cTi_bound 23 = .ok (.invokestatic 67, 3) := by decide +kernel
theorem dTi_bound_26 : decode cTi_bound 26 = .ok (.ifCond .ne 13, 3) := by decide +kernel
theorem dTi_bound_29 : decode cTi_bound 29 = .ok (.new 151, 3) := by decide +kernel
theorem dTi_bound_32 : decode cTi_bound 32 = .ok (.dup, 1) := by decide +kernel
theorem dTi_bound_33 : decode cTi_bound 33 = .ok (.ldc 153, 2) := by decide +kernel
theorem dTi_bound_35 : decode cTi_bound 35 = .ok (.invokespecial 155, 3) := by decide +kernel
theorem dTi_bound_38 : decode cTi_bound 38 = .ok (.athrow, 1) := by decide +kernel
theorem dTi_bound_39 : decode cTi_bound 39 = .ok (.aload 4, 2) := by decide +kernel
theorem dTi_bound_41 : decode cTi_bound 41 = .ok (.getfield 158, 3) := by decide +kernel
theorem dTi_bound_44 : decode cTi_bound 44 = .ok (.iload_n 2, 1) := by decide +kernel
theorem dTi_bound_45 : decode cTi_bound 45 = .ok (.iload_n 3, 1) := by decide +kernel
theorem dTi_bound_46 : decode cTi_bound 46 = .ok (.invokevirtual 161, 3) := by decide +kernel
theorem dTi_bound_49 : decode cTi_bound 49 = .ok (.ireturn, 1) := by decide +kernel
theorem dTi_seen_0 : decode cTi_seen 0 = .ok (.iconst 5, 1) := by decide +kernel
theorem dTi_seen_1 : decode cTi_seen 1 = .ok (.istore 4, 2) := by decide +kernel
theorem dTi_seen_3 : decode cTi_seen 3 = .ok (.iload_n 1, 1) := by decide +kernel
theorem dTi_seen_4 : decode cTi_seen 4 = .ok (.iconst (-1), 1) := by decide +kernel
theorem dTi_seen_5 : decode cTi_seen 5 = .ok (.iload 4, 2) := by decide +kernel
theorem dTi_seen_7 : decode cTi_seen 7 = .ok (.invokestatic 71, 3) := by decide +kernel
theorem dTi_seen_10 : decode cTi_seen 10 = .ok (.ifCond .eq 23, 3) := by decide +kernel
theorem dTi_seen_13 : decode cTi_seen 13 = .ok (.iload_n 2, 1) := by decide +kernel
theorem dTi_seen_14 : decode cTi_seen 14 = .ok (.iconst (-1), 1) := by decide +kernel
theorem dTi_seen_15 : decode cTi_seen 15 = .ok (.iload 4, 2) := by decide +kernel
theorem dTi_seen_17 : decode cTi_seen 17 = .ok (.invokestatic 71, 3) := by decide +kernel
theorem dTi_seen_20 : decode cTi_seen 20 = .ok (.ifCond .eq 13, 3) := by decide +kernel
theorem dTi_seen_23 : decode cTi_seen 23 = .ok (.iload_n 3, 1) := by decide +kernel
theorem dTi_seen_24 : decode cTi_seen 24 = .ok (.iconst (-1), 1) := by decide +kernel
theorem dTi_seen_25 : decode cTi_seen 25 = .ok (.iload 4, 2) := by decide +kernel
theorem dTi_seen_27 : decode cTi_seen 27 = .ok (.invokestatic 71, 3) := by decide +kernel
theorem dTi_seen_30 : decode cTi_seen 30 = .ok (.ifCond .ne 5, 3) := by decide +kernel
theorem dTi_seen_33 : decode cTi_seen 33 = .ok (.iconst (-1), 1) := by decide +kernel
theorem dTi_seen_34 : decode cTi_seen 34 = .ok (.ireturn, 1) := by decide +kernel
theorem dTi_seen_35 : decode cTi_seen 35 = .ok (.iconst 0, 1) := by decide +kernel
theorem dTi_seen_36 : decode cTi_seen 36 = .ok (.istore 5, 2) := by decide +kernel
theorem dTi_seen_38 : decode cTi_seen 38 = .ok (.iload 5, 2) := by decide +kernel
theorem dTi_seen_40 : decode cTi_seen 40 = .ok (.aload_n 0, 1) := by decide +kernel
theorem dTi_seen_41 : decode cTi_seen 41 = .ok (.getfield 10, 3) := by decide +kernel
theorem dTi_seen_44 : decode cTi_seen 44 = .ok (.getfield 129, 3) := by decide +kernel
theorem dTi_seen_47 : decode cTi_seen 47 = .ok (.if_icmp .ge 58, 3) := by decide +kernel
theorem dTi_seen_50 : decode cTi_seen 50 = .ok (.aload_n 0, 1) := by decide +kernel
theorem dTi_seen_51 : decode cTi_seen 51 = .ok (.getfield 10, 3) := by decide +kernel
theorem dTi_seen_54 : decode cTi_seen 54 = .ok (.iload 5, 2) := by decide +kernel
theorem dTi_seen_56 : decode cTi_seen 56 = .ok (.invokevirtual 121, 3) := by decide +kernel
theorem dTi_seen_59 : decode cTi_seen 59 = .ok (.astore 6, 2) := by decide +kernel
theorem dTi_seen_61 : decode cTi_seen 61 = .ok (.aload 6, 2) := by decide +kernel
theorem dTi_seen_63 : decode cTi_seen 63 = .ok (.ifnull 36, 3) := by decide +kernel
theorem dTi_seen_66 : decode cTi_seen 66 = .ok (.aload 6, 2) := by decide +kernel
theorem dTi_seen_68 : decode cTi_seen 68 = .ok (.iconst 0, 1) := by decide +kernel
theorem dTi_seen_69 : decode cTi_seen 69 = .ok (.iload_n 1, 1) := by decide +kernel
theorem dTi_seen_70 : decode cTi_seen 70 = .ok (.invokevirtual 165, 3) := by decide +kernel
theorem dTi_seen_73 : decode cTi_seen 73 = .ok (.ifCond .eq 26, 3) := by decide +kernel
theorem dTi_seen_76 : decode cTi_seen 76 = .ok (.aload 6, 2) := by decide +kernel
theorem dTi_seen_78 : decode cTi_seen 78 = .ok (.iconst 1, 1) := by decide +kernel
theorem dTi_seen_79 : decode cTi_seen 79 = .ok (.iload_n 2, 1) := by decide +kernel
theorem dTi_seen_80 : decode cTi_seen 80 = .ok (.invokevirtual 165, 3) := by decide +kernel
theorem dTi_seen_83 : decode cTi_seen 83 = .ok (.ifCond .eq 16, 3) := by decide +kernel
theorem dTi_seen_86 : decode cTi_seen 86 = .ok (.aload 6, 2) := by decide +kernel
theorem dTi_seen_88 : decode cTi_seen 88 = .ok (.iconst 2, 1) := by decide +kernel
theorem dTi_seen_89 : decode cTi_seen 89 = .ok (.iload_n 3, 1) := by decide +kernel
theorem dTi_seen_90 : decode cTi_seen 90 = .ok (.invokevirtual 165, 3) := by decide +kernel
theorem dTi_seen_93 : decode cTi_seen 93 = .ok (.ifCond .eq 6, 3) := by decide +kernel
theorem dTi_seen_96 : decode cTi_seen 96 = .ok (.iload 5, 2) := by decide +kernel
theorem dTi_seen_98 : decode cTi_seen 98 = .ok (.ireturn, 1) := by decide +kernel
theorem dTi_seen_99 : decode cTi_seen 99 = .ok (.iinc 5 1, 3) := by decide +kernel
theorem dTi_seen_102 : decode cTi_seen 102 = .ok (.goto (-64), 3) := by decide +kernel
theorem dTi_seen_105 : decode cTi_seen 105 = .ok (.bipush (-2), 2) := by decide +kernel
theorem dTi_seen_107 : decode cTi_seen 107 = .ok (.ireturn, 1) := by decide +kernel
theorem dTi_lead_0 : decode cTi_lead 0 = .ok (.aload_n 0, 1) := by decide +kernel
theorem dTi_lead_1 : decode cTi_lead 1 = .ok (.getfield 10, 3) := by decide +kernel
theorem dTi_lead_4 : decode cTi_lead 4 = .ok (.iload_n 1, 1) := by decide +kernel
theorem dTi_lead_5 : decode cTi_lead 5 = .ok (.invokevirtual 121, 3) := by decide +kernel
theorem dTi_lead_8 : decode cTi_lead 8 = .ok (.astore 4, 2) := by decide +kernel
theorem dTi_lead_10 : decode cTi_lead 10 = .ok (.aload 4, 2) := by decide +kernel
theorem dTi_lead_12 : decode cTi_lead 12 = .ok (.ifnull 25, 3) := by decide +kernel
theorem dTi_lead_15 : decode cTi_lead 15 = .ok (.iload_n 2, 1) := by decide +kernel
theorem dTi_lead_16 : decode cTi_lead 16 = .ok (.ifCond .lt 21, 3) := by decide +kernel
theorem dTi_lead_19 : decode cTi_lead 19 = .ok (.iload_n 2, 1) := by decide +kernel
theorem dTi_lead_20 : decode cTi_lead 20 = .ok (.aload 4, 2) := by decide +kernel
theorem dTi_lead_22 : decode cTi_lead 22 = .ok (.getfield 148, 3) := by decide +kernel
theorem dTi_lead_25 : decode cTi_lead 25 = .ok (.if_icmp .ge 12, 3) := by decide +kernel
theorem dTi_lead_28 : decode cTi_lead 28 = .ok (.iload_n 3, 1) := by decide +kernel
theorem dTi_lead_29 : decode cTi_lead 29 = .ok (.iconst 0, 1) := by decide +kernel
theorem dTi_lead_30 : decode cTi_lead 30 = .ok (.iconst 3, 1) := by decide +kernel
theorem dTi_lead_31 : decode cTi_lead 31 = .ok (.invokestatic 71, 3) := by decide +kernel
theorem dTi_lead_34 : decode cTi_lead 34 = .ok (.ifCond .ne 5, 3) := by decide +kernel
theorem dTi_lead_37 : decode cTi_lead 37 = .ok (.iconst (-1), 1) := by decide +kernel
theorem dTi_lead_38 : decode cTi_lead 38 = .ok (.ireturn, 1) := by decide +kernel
theorem dTi_lead_39 : decode cTi_lead 39 = .ok (.aload 4, 2) := by decide +kernel
theorem dTi_lead_41 : decode cTi_lead 41 = .ok (.getfield 148, 3) := by decide +kernel
theorem dTi_lead_44 : decode cTi_lead 44 = .ok (.iconst 1, 1) := by decide +kernel
theorem dTi_lead_45 : decode cTi_lead 45 = .ok (.isub, 1) := by decide +kernel
theorem dTi_lead_46 : decode cTi_lead 46 = .ok (.istore 5, 2) := by decide +kernel
theorem dTi_lead_48 : decode cTi_lead 48 = .ok (.iload 5, 2) := by decide +kernel
theorem dTi_lead_50 : decode cTi_lead 50 = .ok (.iload_n 2, 1) := by decide +kernel
theorem dTi_lead_51 : decode cTi_lead 51 = .ok (.if_icmp .le 28, 3) := by decide +kernel
theorem dTi_lead_54 : decode cTi_lead 54 = .ok (.aload 4, 2) := by decide +kernel
theorem dTi_lead_56 : decode cTi_lead 56 = .ok (.ifnull 23, 3) := by decide +kernel
theorem dTi_lead_59 : decode cTi_lead 59 = .ok (.aload_n 0, 1) := by decide +kernel
theorem dTi_lead_60 : decode cTi_lead 60 = .ok (.getfield 10, 3) := by decide +kernel
theorem dTi_lead_63 : decode cTi_lead 63 = .ok (.aload 4, 2) := by decide +kernel
theorem dTi_lead_65 : decode cTi_lead 65 = .ok (.getfield 136, 3) := by decide +kernel
theorem dTi_lead_68 : decode cTi_lead 68 = .ok (.invokevirtual 121, 3) := by decide +kernel
theorem dTi_lead_71 : decode cTi_lead 71 = .ok (.astore 4, 2) := by decide +kernel
theorem dTi_lead_73 : decode cTi_lead 73 = .ok (.iinc 5 (-1), 3) := by decide +kernel
theorem dTi_lead_76 : decode cTi_lead 76 = .ok (.goto (-28), 3) := by decide +kernel
theorem dTi_lead_79 : decode cTi_lead 79 = .ok (.aload 4, 2) := by decide +kernel
theorem dTi_lead_81 : decode cTi_lead 81 = .ok (.ifnonnull 7, 3) := by decide +kernel
theorem dTi_lead_84 : decode cTi_lead 84 = .ok (.iconst (-1), 1) := by decide +kernel
theorem dTi_lead_85 : decode cTi_lead 85 = .ok (.goto 10, 3) := by decide +kernel
theorem dTi_lead_88 : decode cTi_lead 88 = .ok (.aload 4, 2) := by decide +kernel
theorem dTi_lead_90 : decode cTi_lead 90 = .ok (.getfield 169, 3) := by decide +kernel
theorem dTi_lead_93 : decode cTi_lead 93 = .ok (.iload_n 3, 1) := by decide +kernel
theorem dTi_lead_94 : decode cTi_lead 94 = .ok (.iaload, 1) := by decide +kernel
theorem dTi_lead_95 : decode cTi_lead 95 = .ok (.ireturn, 1) := by decide +kernel
theorem dTi_soonest_0 : decode cTi_soonest 0 = .ok (.aload_n 0, 1) := by decide +kernel
theorem dTi_soonest_1 : decode cTi_soonest 1 = .ok (.getfield 10, 3) := by decide +kernel
theorem dTi_soonest_4 : decode cTi_soonest 4 = .ok (.iload_n 1, 1) := by decide +kernel
theorem dTi_soonest_5 : decode cTi_soonest 5 = .ok (.invokevirtual 121, 3) := by decide +kernel
theorem dTi_soonest_8 : decode cTi_soonest 8 = .ok (.astore_n 2, 1) := by decide +kernel
theorem dTi_soonest_9 : decode cTi_soonest 9 = .ok (.aload_n 2, 1) := by decide +kernel
theorem dTi_soonest_10 : decode cTi_soonest 10 = .ok (.ifnonnull 7, 3) := by decide +kernel
theorem dTi_soonest_13 : decode cTi_soonest 13 = .ok (.iconst (-1), 1) := by decide +kernel
theorem dTi_soonest_14 : decode cTi_soonest 14 = .ok (.goto 7, 3) := by decide +kernel
theorem dTi_soonest_17 : decode cTi_soonest 17 = .ok (.aload_n 2, 1) := by decide +kernel
theorem dTi_soonest_18 : decode cTi_soonest 18 = .ok (.getfield 172, 3) := by decide +kernel
theorem dTi_soonest_21 : decode cTi_soonest 21 = .ok (.ireturn, 1) := by decide +kernel
theorem dTi_stuck_0 : decode cTi_stuck 0 = .ok (.aload_n 0, 1) := by decide +kernel
theorem dTi_stuck_1 : decode cTi_stuck 1 = .ok (.getfield 10, 3) := by decide +kernel
theorem dTi_stuck_4 : decode cTi_stuck 4 = .ok (.iload_n 1, 1) := by decide +kernel
theorem dTi_stuck_5 : decode cTi_stuck 5 = .ok (.invokevirtual 121, 3) := by decide +kernel
theorem dTi_stuck_8 : decode cTi_stuck 8 = .ok (.astore_n 2, 1) := by decide +kernel
theorem dTi_stuck_9 : decode cTi_stuck 9 = .ok (.aload_n 2, 1) := by decide +kernel
theorem dTi_stuck_10 : decode cTi_stuck 10 = .ok (.ifnull 14, 3) := by decide +kernel
theorem dTi_stuck_13 : decode cTi_stuck 13 = .ok (.iload_n 1, 1) := by decide +kernel
theorem dTi_stuck_14 : decode cTi_stuck 14 = .ok (.aload_n 0, 1) := by decide +kernel
theorem dTi_stuck_15 : decode cTi_stuck 15 = .ok (.getfield 10, 3) := by decide +kernel
theorem dTi_stuck_18 : decode cTi_stuck 18 = .ok (.getfield 142, 3) := by decide +kernel
theorem dTi_stuck_21 : decode cTi_stuck 21 = .ok (.if_icmp .lt 5, 3) := by decide +kernel
theorem dTi_stuck_24 : decode cTi_stuck 24 = .ok (.iconst (-1), 1) := by decide +kernel
theorem dTi_stuck_25 : decode cTi_stuck 25 = .ok (.ireturn, 1) := by decide +kernel
theorem dTi_stuck_26 : decode cTi_stuck 26 = .ok (.aload_n 2, 1) := by decide +kernel
theorem dTi_stuck_27 : decode cTi_stuck 27 = .ok (.getfield 145, 3) := by decide +kernel
theorem dTi_stuck_30 : decode cTi_stuck 30 = .ok (.ifCond .le 5, 3) := by decide +kernel
theorem dTi_stuck_33 : decode cTi_stuck 33 = .ok (.iconst 0, 1) := by decide +kernel
theorem dTi_stuck_34 : decode cTi_stuck 34 = .ok (.ireturn, 1) := by decide +kernel
theorem dTi_stuck_35 : decode cTi_stuck 35 = .ok (.aload_n 2, 1) := by decide +kernel
theorem dTi_stuck_36 : decode cTi_stuck 36 = .ok (.getfield 175, 3) := by decide +kernel
theorem dTi_stuck_39 : decode cTi_stuck 39 = .ok (.ifCond .eq 7, 3) := by decide +kernel
theorem dTi_stuck_42 : decode cTi_stuck 42 = .ok (.iconst 1, 1) := by decide +kernel
theorem dTi_stuck_43 : decode cTi_stuck 43 = .ok (.goto 4, 3) := by decide +kernel
theorem dTi_stuck_46 : decode cTi_stuck 46 = .ok (.iconst 2, 1) := by decide +kernel
theorem dTi_stuck_47 : decode cTi_stuck 47 = .ok (.ireturn, 1) := by decide +kernel
theorem dTi_hand_0 : decode cTi_hand 0 = .ok (.iload_n 1, 1) := by decide +kernel
theorem dTi_hand_1 : decode cTi_hand 1 = .ok (.tableswitch 87 0 3 #[31, 40, 49, 77], 31) := by decide +kernel
theorem dTi_hand_32 : decode cTi_hand 32 = .ok (.aload_n 0, 1) := by decide +kernel
theorem dTi_hand_33 : decode cTi_hand 33 = .ok (.getfield 21, 3) := by decide +kernel
theorem dTi_hand_36 : decode cTi_hand 36 = .ok (.invokevirtual 25, 3) := by decide +kernel
theorem dTi_hand_39 : decode cTi_hand 39 = .ok (.iconst 0, 1) := by decide +kernel
theorem dTi_hand_40 : decode cTi_hand 40 = .ok (.ireturn, 1) := by decide +kernel
theorem dTi_hand_41 : decode cTi_hand 41 = .ok (.aload_n 0, 1) := by decide +kernel
theorem dTi_hand_42 : decode cTi_hand 42 = .ok (.getfield 21, 3) := by decide +kernel
theorem dTi_hand_45 : decode cTi_hand 45 = .ok (.invokevirtual 179, 3) := by decide +kernel
theorem dTi_hand_48 : decode cTi_hand 48 = .ok (.iconst 0, 1) := by decide +kernel
theorem dTi_hand_49 : decode cTi_hand 49 = .ok (.ireturn, 1) := by decide +kernel
theorem dTi_hand_50 : decode cTi_hand 50 = .ok (.aload_n 0, 1) := by decide +kernel
theorem dTi_hand_51 : decode cTi_hand 51 = .ok (.getfield 10, 3) := by decide +kernel
theorem dTi_hand_54 : decode cTi_hand 54 = .ok (.iload_n 2, 1) := by decide +kernel
theorem dTi_hand_55 : decode cTi_hand 55 = .ok (.invokevirtual 121, 3) := by decide +kernel
theorem dTi_hand_58 : decode cTi_hand 58 = .ok (.astore_n 3, 1) := by decide +kernel
theorem dTi_hand_59 : decode cTi_hand 59 = .ok (.aload_n 3, 1) := by decide +kernel
theorem dTi_hand_60 : decode cTi_hand 60 = .ok (.ifnonnull 5, 3) := by decide +kernel
theorem dTi_hand_63 : decode cTi_hand 63 = .ok (.iconst (-1), 1) := by decide +kernel
theorem dTi_hand_64 : decode cTi_hand 64 = .ok (.ireturn, 1) := by decide +kernel
theorem dTi_hand_65 : decode cTi_hand 65 = .ok (.aload_n 0, 1) := by decide +kernel
theorem dTi_hand_66 : decode cTi_hand 66 = .ok (.getfield 21, 3) := by decide +kernel
theorem dTi_hand_69 : decode cTi_hand 69 = .ok (.aload_n 3, 1) := by decide +kernel
theorem dTi_hand_70 : decode cTi_hand 70 = .ok (.getfield 158, 3) := by decide +kernel
theorem dTi_hand_73 : decode cTi_hand 73 = .ok (.invokevirtual 182, 3) := by decide +kernel
theorem dTi_hand_76 : decode cTi_hand 76 = .ok (.iconst 0, 1) := by decide +kernel
theorem dTi_hand_77 : decode cTi_hand 77 = .ok (.ireturn, 1) := by decide +kernel
theorem dTi_hand_78 : decode cTi_hand 78 = .ok (.aload_n 0, 1) := by decide +kernel
theorem dTi_hand_79 : decode cTi_hand 79 = .ok (.getfield 21, 3) := by decide +kernel
theorem dTi_hand_82 : decode cTi_hand 82 = .ok (.iconst 1, 1) := by decide +kernel
theorem dTi_hand_83 : decode cTi_hand 83 = .ok (.putfield 186, 3) := by decide +kernel
theorem dTi_hand_86 : decode cTi_hand 86 = .ok (.iconst 0, 1) := by decide +kernel
theorem dTi_hand_87 : decode cTi_hand 87 = .ok (.ireturn, 1) := by decide +kernel
theorem dTi_hand_88 : decode cTi_hand 88 = .ok (.iconst (-1), 1) := by decide +kernel
theorem dTi_hand_89 : decode cTi_hand 89 = .ok (.ireturn, 1) := by decide +kernel
theorem dTi_tighten_0 : decode cTi_tighten 0 = .ok (.iload_n 1, 1) := by decide +kernel
theorem dTi_tighten_1 : decode cTi_tighten 1 = .ok (.invokestatic 67, 3) := by decide +kernel
theorem dTi_tighten_4 : decode cTi_tighten 4 = .ok (.ifCond .eq 28, 3) := by decide +kernel
theorem dTi_tighten_7 : decode cTi_tighten 7 = .ok (.iload_n 2, 1) := by decide +kernel
theorem dTi_tighten_8 : decode cTi_tighten 8 = .ok (.invokestatic 67, 3) := by decide +kernel
theorem dTi_tighten_11 : decode cTi_tighten 11 = .ok (.ifCond .eq 21, 3) := by decide +kernel
theorem dTi_tighten_14 : decode cTi_tighten 14 = .ok (.iload_n 1, 1) := by decide +kernel
theorem dTi_tighten_15 : decode cTi_tighten 15 = .ok (.iload_n 2, 1) := by decide +kernel
theorem dTi_tighten_16 : decode cTi_tighten 16 = .ok (.if_icmp .eq 16, 3) := by decide +kernel
theorem dTi_tighten_19 : decode cTi_tighten 19 = .ok (.iload_n 3, 1) := by decide +kernel
theorem dTi_tighten_20 : decode cTi_tighten 20 = .ok (.sipush (-400), 3) := by decide +kernel
theorem dTi_tighten_23 : decode cTi_tighten 23 = .ok (.sipush 400, 3) := by decide +kernel
theorem dTi_tighten_26 : decode cTi_tighten 26 = .ok (.invokestatic 71, 3) := by decide +kernel
theorem dTi_tighten_29 : decode cTi_tighten 29 = .ok (.ifCond .ne 5, 3) := by decide +kernel
theorem dTi_tighten_32 : decode cTi_tighten 32 = .ok (.iconst (-1), 1) := by decide +kernel
theorem dTi_tighten_33 : decode cTi_tighten 33 = .ok (.ireturn, 1) := by decide +kernel
theorem dTi_tighten_34 : decode cTi_tighten 34 = .ok (.aload_n 0, 1) := by decide +kernel
theorem dTi_tighten_35 : decode cTi_tighten 35 = .ok (.getfield 21, 3) := by decide +kernel
theorem dTi_tighten_38 : decode cTi_tighten 38 = .ok (.iload_n 1, 1) := by decide +kernel
theorem dTi_tighten_39 : decode cTi_tighten 39 = .ok (.iload_n 2, 1) := by decide +kernel
theorem dTi_tighten_40 : decode cTi_tighten 40 = .ok (.iload_n 3, 1) := by decide +kernel
theorem dTi_tighten_41 : decode cTi_tighten 41 = .ok (.iload 4, 2) := by decide +kernel
theorem dTi_tighten_43 : decode cTi_tighten 43 = .ok (.invokestatic 84, 3) := by decide +kernel
theorem dTi_tighten_46 : decode cTi_tighten 46 = .ok (.invokevirtual 189, 3) := by decide +kernel
theorem dTi_tighten_49 : decode cTi_tighten 49 = .ok (.aload_n 0, 1) := by decide +kernel
theorem dTi_tighten_50 : decode cTi_tighten 50 = .ok (.getfield 21, 3) := by decide +kernel
theorem dTi_tighten_53 : decode cTi_tighten 53 = .ok (.invokevirtual 193, 3) := by decide +kernel
theorem dTi_tighten_56 : decode cTi_tighten 56 = .ok (.aload_n 0, 1) := by decide +kernel
theorem dTi_tighten_57 : decode cTi_tighten 57 = .ok (.invokevirtual 196, 3) := by decide +kernel
theorem dTi_tighten_60 : decode cTi_tighten 60 = .ok (.ireturn, 1) := by decide +kernel
theorem dTi_pass_0 : decode cTi_pass 0 = .ok (.aload_n 0, 1) := by decide +kernel
theorem dTi_pass_1 : decode cTi_pass 1 = .ok (.getfield 21, 3) := by decide +kernel
theorem dTi_pass_4 : decode cTi_pass 4 = .ok (.invokevirtual 200, 3) := by decide +kernel
theorem dTi_pass_7 : decode cTi_pass 7 = .ok (.aload_n 0, 1) := by decide +kernel
theorem dTi_pass_8 : decode cTi_pass 8 = .ok (.getfield 21, 3) := by decide +kernel
theorem dTi_pass_11 : decode cTi_pass 11 = .ok (.invokevirtual 193, 3) := by decide +kernel
theorem dTi_pass_14 : decode cTi_pass 14 = .ok (.aload_n 0, 1) := by decide +kernel
theorem dTi_pass_15 : decode cTi_pass 15 = .ok (.invokevirtual 196, 3) := by decide +kernel
theorem dTi_pass_18 : decode cTi_pass 18 = .ok (.ireturn, 1) := by decide +kernel
theorem dTi_set_0 : decode cTi_set 0 = .ok (.iload_n 1, 1) := by decide +kernel
theorem dTi_set_1 : decode cTi_set 1 = .ok (.iconst 0, 1) := by decide +kernel
theorem dTi_set_2 : decode cTi_set 2 = .ok (.bipush 7, 2) := by decide +kernel
theorem dTi_set_4 : decode cTi_set 4 = .ok (.invokestatic 71, 3) := by decide +kernel
theorem dTi_set_7 : decode cTi_set 7 = .ok (.ifCond .ne 5, 3) := by decide +kernel
theorem dTi_set_10 : decode cTi_set 10 = .ok (.iconst (-1), 1) := by decide +kernel
theorem dTi_set_11 : decode cTi_set 11 = .ok (.ireturn, 1) := by decide +kernel
theorem dTi_set_12 : decode cTi_set 12 = .ok (.aload_n 0, 1) := by decide +kernel
theorem dTi_set_13 : decode cTi_set 13 = .ok (.getfield 21, 3) := by decide +kernel
theorem dTi_set_16 : decode cTi_set 16 = .ok (.iload_n 1, 1) := by decide +kernel
theorem dTi_set_17 : decode cTi_set 17 = .ok (.invokevirtual 203, 3) := by decide +kernel
theorem dTi_set_20 : decode cTi_set 20 = .ok (.aload_n 0, 1) := by decide +kernel
theorem dTi_set_21 : decode cTi_set 21 = .ok (.getfield 21, 3) := by decide +kernel
theorem dTi_set_24 : decode cTi_set 24 = .ok (.invokevirtual 193, 3) := by decide +kernel
theorem dTi_set_27 : decode cTi_set 27 = .ok (.aload_n 0, 1) := by decide +kernel
theorem dTi_set_28 : decode cTi_set 28 = .ok (.invokevirtual 196, 3) := by decide +kernel
theorem dTi_set_31 : decode cTi_set 31 = .ok (.ireturn, 1) := by decide +kernel
theorem dTi_letGo_0 : decode cTi_letGo 0 = .ok (.iload_n 1, 1) := by decide +kernel
theorem dTi_letGo_1 : decode cTi_letGo 1 = .ok (.iconst 0, 1) := by decide +kernel
theorem dTi_letGo_2 : decode cTi_letGo 2 = .ok (.sipush 200, 3) := by decide +kernel
theorem dTi_letGo_5 : decode cTi_letGo 5 = .ok (.invokestatic 71, 3) := by decide +kernel
theorem dTi_letGo_8 : decode cTi_letGo 8 = .ok (.ifCond .eq 25, 3) := by decide +kernel
theorem dTi_letGo_11 : decode cTi_letGo 11 = .ok (.iload_n 2, 1) := by decide +kernel
theorem dTi_letGo_12 : decode cTi_letGo 12 = .ok (.iconst 0, 1) := by decide +kernel
theorem dTi_letGo_13 : decode cTi_letGo 13 = .ok (.sipush 200, 3) := by decide +kernel
theorem dTi_letGo_16 : decode cTi_letGo 16 = .ok (.invokestatic 71, 3) := by decide +kernel
theorem dTi_letGo_19 : decode cTi_letGo 19 = .ok (.ifCond .eq 14, 3) := by decide +kernel
theorem dTi_letGo_22 : decode cTi_letGo 22 = .ok (.iload_n 3, 1) := by decide +kernel
theorem dTi_letGo_23 : decode cTi_letGo 23 = .ok (.iconst 0, 1) := by decide +kernel
theorem dTi_letGo_24 : decode cTi_letGo 24 = .ok (.sipush 200, 3) := by decide +kernel
theorem dTi_letGo_27 : decode cTi_letGo 27 = .ok (.invokestatic 71, 3) := by decide +kernel
theorem dTi_letGo_30 : decode cTi_letGo 30 = .ok (.ifCond .ne 5, 3) := by decide +kernel
theorem dTi_letGo_33 : decode cTi_letGo 33 = .ok (.iconst (-1), 1) := by decide +kernel
theorem dTi_letGo_34 : decode cTi_letGo 34 = .ok (.ireturn, 1) := by decide +kernel
theorem dTi_letGo_35 : decode cTi_letGo 35 = .ok (.aload_n 0, 1) := by decide +kernel
theorem dTi_letGo_36 : decode cTi_letGo 36 = .ok (.getfield 28, 3) := by decide +kernel
theorem dTi_letGo_39 : decode cTi_letGo 39 = .ok (.iconst 1, 1) := by decide +kernel
theorem dTi_letGo_40 : decode cTi_letGo 40 = .ok (.iload_n 1, 1) := by decide +kernel
theorem dTi_letGo_41 : decode cTi_letGo 41 = .ok (.iastore, 1) := by decide +kernel
theorem dTi_letGo_42 : decode cTi_letGo 42 = .ok (.aload_n 0, 1) := by decide +kernel
theorem dTi_letGo_43 : decode cTi_letGo 43 = .ok (.getfield 28, 3) := by decide +kernel
theorem dTi_letGo_46 : decode cTi_letGo 46 = .ok (.iconst 2, 1) := by decide +kernel
theorem dTi_letGo_47 : decode cTi_letGo 47 = .ok (.iload_n 2, 1) := by decide +kernel
theorem dTi_letGo_48 : decode cTi_letGo 48 = .ok (.iastore, 1) := by decide +kernel
theorem dTi_letGo_49 : decode cTi_letGo 49 = .ok (.aload_n 0, 1) := by decide +kernel
theorem dTi_letGo_50 : decode cTi_letGo 50 = .ok (.getfield 28, 3) := by decide +kernel
theorem dTi_letGo_53 : decode cTi_letGo 53 = .ok (.iconst 3, 1) := by decide +kernel
theorem dTi_letGo_54 : decode cTi_letGo 54 = .ok (.iload_n 3, 1) := by decide +kernel
theorem dTi_letGo_55 : decode cTi_letGo 55 = .ok (.iastore, 1) := by decide +kernel
theorem dTi_letGo_56 : decode cTi_letGo 56 = .ok (.aload_n 0, 1) := by decide +kernel
theorem dTi_letGo_57 : decode cTi_letGo 57 = .ok (.getfield 21, 3) := by decide +kernel
theorem dTi_letGo_60 : decode cTi_letGo 60 = .ok (.aload_n 0, 1) := by decide +kernel
theorem dTi_letGo_61 : decode cTi_letGo 61 = .ok (.getfield 28, 3) := by decide +kernel
theorem dTi_letGo_64 : decode cTi_letGo 64 = .ok (.invokevirtual 207, 3) := by decide +kernel
theorem dTi_letGo_67 : decode cTi_letGo 67 = .ok (.pop, 1) := by decide +kernel
theorem dTi_letGo_68 : decode cTi_letGo 68 = .ok (.aload_n 0, 1) := by decide +kernel
theorem dTi_letGo_69 : decode cTi_letGo 69 = .ok (.getfield 21, 3) := by decide +kernel
theorem dTi_letGo_72 : decode cTi_letGo 72 = .ok (.invokevirtual 193, 3) := by decide +kernel
theorem dTi_letGo_75 : decode cTi_letGo 75 = .ok (.aload_n 0, 1) := by decide +kernel
theorem dTi_letGo_76 : decode cTi_letGo 76 = .ok (.invokevirtual 196, 3) := by decide +kernel
theorem dTi_letGo_79 : decode cTi_letGo 79 = .ok (.ireturn, 1) := by decide +kernel
theorem dTi_meet_0 : decode cTi_meet 0 = .ok (.aload_n 0, 1) := by decide +kernel
theorem dTi_meet_1 : decode cTi_meet 1 = .ok (.getfield 10, 3) := by decide +kernel
theorem dTi_meet_4 : decode cTi_meet 4 = .ok (.iload_n 1, 1) := by decide +kernel
theorem dTi_meet_5 : decode cTi_meet 5 = .ok (.invokevirtual 121, 3) := by decide +kernel
theorem dTi_meet_8 : decode cTi_meet 8 = .ok (.astore_n 2, 1) := by decide +kernel
theorem dTi_meet_9 : decode cTi_meet 9 = .ok (.aload_n 2, 1) := by decide +kernel
theorem dTi_meet_10 : decode cTi_meet 10 = .ok (.ifnonnull 5, 3) := by decide +kernel
theorem dTi_meet_13 : decode cTi_meet 13 = .ok (.iconst (-1), 1) := by decide +kernel
theorem dTi_meet_14 : decode cTi_meet 14 = .ok (.ireturn, 1) := by decide +kernel
theorem dTi_meet_15 : decode cTi_meet 15 = .ok (.aload_n 0, 1) := by decide +kernel
theorem dTi_meet_16 : decode cTi_meet 16 = .ok (.getfield 21, 3) := by decide +kernel
theorem dTi_meet_19 : decode cTi_meet 19 = .ok (.aload_n 2, 1) := by decide +kernel
theorem dTi_meet_20 : decode cTi_meet 20 = .ok (.getfield 158, 3) := by decide +kernel
theorem dTi_meet_23 : decode cTi_meet 23 = .ok (.invokevirtual 211, 3) := by decide +kernel
theorem dTi_meet_26 : decode cTi_meet 26 = .ok (.aload_n 0, 1) := by decide +kernel
theorem dTi_meet_27 : decode cTi_meet 27 = .ok (.getfield 21, 3) := by decide +kernel
theorem dTi_meet_30 : decode cTi_meet 30 = .ok (.invokevirtual 193, 3) := by decide +kernel
theorem dTi_meet_33 : decode cTi_meet 33 = .ok (.aload_n 0, 1) := by decide +kernel
theorem dTi_meet_34 : decode cTi_meet 34 = .ok (.invokevirtual 196, 3) := by decide +kernel
theorem dTi_meet_37 : decode cTi_meet 37 = .ok (.ireturn, 1) := by decide +kernel
theorem dTi_within_0 : decode cTi_within 0 = .ok (.aload_n 0, 1) := by decide +kernel
theorem dTi_within_1 : decode cTi_within 1 = .ok (.getfield 10, 3) := by decide +kernel
theorem dTi_within_4 : decode cTi_within 4 = .ok (.iload_n 1, 1) := by decide +kernel
theorem dTi_within_5 : decode cTi_within 5 = .ok (.invokevirtual 121, 3) := by decide +kernel
theorem dTi_within_8 : decode cTi_within 8 = .ok (.astore_n 2, 1) := by decide +kernel
theorem dTi_within_9 : decode cTi_within 9 = .ok (.aload_n 2, 1) := by decide +kernel
theorem dTi_within_10 : decode cTi_within 10 = .ok (.ifnonnull 5, 3) := by decide +kernel
theorem dTi_within_13 : decode cTi_within 13 = .ok (.iconst (-1), 1) := by decide +kernel
theorem dTi_within_14 : decode cTi_within 14 = .ok (.ireturn, 1) := by decide +kernel
theorem dTi_within_15 : decode cTi_within 15 = .ok (.aload_n 0, 1) := by decide +kernel
theorem dTi_within_16 : decode cTi_within 16 = .ok (.getfield 21, 3) := by decide +kernel
theorem dTi_within_19 : decode cTi_within 19 = .ok (.aload_n 2, 1) := by decide +kernel
theorem dTi_within_20 : decode cTi_within 20 = .ok (.getfield 158, 3) := by decide +kernel
theorem dTi_within_23 : decode cTi_within 23 = .ok (.invokevirtual 214, 3) := by decide +kernel
theorem dTi_within_26 : decode cTi_within 26 = .ok (.ifCond .eq 7, 3) := by decide +kernel
theorem dTi_within_29 : decode cTi_within 29 = .ok (.iconst 1, 1) := by decide +kernel
theorem dTi_within_30 : decode cTi_within 30 = .ok (.goto 4, 3) := by decide +kernel
theorem dTi_within_33 : decode cTi_within 33 = .ok (.iconst 0, 1) := by decide +kernel
theorem dTi_within_34 : decode cTi_within 34 = .ok (.aload_n 2, 1) := by decide +kernel
theorem dTi_within_35 : decode cTi_within 35 = .ok (.getfield 158, 3) := by decide +kernel
theorem dTi_within_38 : decode cTi_within 38 = .ok (.aload_n 0, 1) := by decide +kernel
theorem dTi_within_39 : decode cTi_within 39 = .ok (.getfield 21, 3) := by decide +kernel
theorem dTi_within_42 : decode cTi_within 42 = .ok (.invokevirtual 214, 3) := by decide +kernel
theorem dTi_within_45 : decode cTi_within 45 = .ok (.ifCond .eq 7, 3) := by decide +kernel
theorem dTi_within_48 : decode cTi_within 48 = .ok (.iconst 2, 1) := by decide +kernel
theorem dTi_within_49 : decode cTi_within 49 = .ok (.goto 4, 3) := by decide +kernel
theorem dTi_within_52 : decode cTi_within 52 = .ok (.iconst 0, 1) := by decide +kernel
theorem dTi_within_53 : decode cTi_within 53 = .ok (.iadd, 1) := by decide +kernel
theorem dTi_within_54 : decode cTi_within 54 = .ok (.ireturn, 1) := by decide +kernel
theorem dTi_handBound_0 : decode cTi_handBound 0 = .ok (.iload_n 1, 1) := by decide +kernel
theorem dTi_handBound_1 : decode cTi_handBound 1 = .ok (.invokestatic 67, 3) := by decide +kernel
theorem dTi_handBound_4 : decode cTi_handBound 4 = .ok (.ifCond .eq 10, 3) := by decide +kernel
theorem dTi_handBound_7 : decode cTi_handBound 7 = .ok (.iload_n 2, 1) := by decide +kernel
theorem dTi_handBound_8 : decode cTi_handBound 8 = .ok (.invokestatic 67, 3) := by decide +kernel
theorem dTi_handBound_11 : decode cTi_handBound 11 = .ok (.ifCond .ne 13, 3) := by decide +kernel
theorem dTi_handBound_14 : decode cTi_handBound 14 = .ok (.new 151, 3) := by decide +kernel
theorem dTi_handBound_17 : decode cTi_handBound 17 = .ok (.dup, 1) := by decide +kernel
theorem dTi_handBound_18 : decode cTi_handBound 18 = .ok (.ldc 218, 2) := by decide +kernel
theorem dTi_handBound_20 : decode cTi_handBound 20 = .ok (.invokespecial 155, 3) := by decide +kernel
theorem dTi_handBound_23 : decode cTi_handBound 23 = .ok (.athrow, 1) := by decide +kernel
theorem dTi_handBound_24 : decode cTi_handBound 24 = .ok (.aload_n 0, 1) := by decide +kernel
theorem dTi_handBound_25 : decode cTi_handBound 25 = .ok (.getfield 21, 3) := by decide +kernel
theorem dTi_handBound_28 : decode cTi_handBound 28 = .ok (.getfield 186, 3) := by decide +kernel
theorem dTi_handBound_31 : decode cTi_handBound 31 = .ok (.ifCond .eq 8, 3) := by decide +kernel
theorem dTi_handBound_34 : decode cTi_handBound 34 = .ok (.ldc 220, 2) := by decide +kernel
theorem dTi_handBound_36 : decode cTi_handBound 36 = .ok (.goto 12, 3) := by decide +kernel
theorem dTi_handBound_39 : decode cTi_handBound 39 = .ok (.aload_n 0, 1) := by decide +kernel
theorem dTi_handBound_40 : decode cTi_handBound 40 = .ok (.getfield 21, 3) := by decide +kernel
theorem dTi_handBound_43 : decode cTi_handBound 43 = .ok (.iload_n 1, 1) := by decide +kernel
theorem dTi_handBound_44 : decode cTi_handBound 44 = .ok (.iload_n 2, 1) := by decide +kernel
theorem dTi_handBound_45 : decode cTi_handBound 45 = .ok (.invokevirtual 161, 3) := by decide +kernel
theorem dTi_handBound_48 : decode cTi_handBound 48 = .ok (.ireturn, 1) := by decide +kernel
