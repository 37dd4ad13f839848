abbrev c12_isRest : ByteArray := prog_14_method_97_code
def y12_isRest : MethodName := ⟨RX12, "isRest", "(II)Z"⟩
theorem d12_isRest_0 : decode c12_isRest 0 = .ok (.iconst 0, 1) := by decide +kernel
theorem d12_isRest_1 : decode c12_isRest 1 = .ok (.istore_n 3, 1) := by decide +kernel
theorem d12_isRest_2 : decode c12_isRest 2 = .ok (.iload_n 3, 1) := by decide +kernel
theorem d12_isRest_3 : decode c12_isRest 3 = .ok (.bipush 8, 2) := by decide +kernel
theorem d12_isRest_5 : decode c12_isRest 5 = .ok (.if_icmp .ge 73, 3) := by decide +kernel
theorem d12_isRest_8 : decode c12_isRest 8 = .ok (.aload_n 0, 1) := by decide +kernel
theorem d12_isRest_9 : decode c12_isRest 9 = .ok (.getfield 64, 3) := by decide +kernel
theorem d12_isRest_12 : decode c12_isRest 12 = .ok (.iconst 2, 1) := by decide +kernel
theorem d12_isRest_13 : decode c12_isRest 13 = .ok (.bipush 8, 2) := by decide +kernel
theorem d12_isRest_15 : decode c12_isRest 15 = .ok (.iload_n 3, 1) := by decide +kernel
theorem d12_isRest_16 : decode c12_isRest 16 = .ok (.imul, 1) := by decide +kernel
theorem d12_isRest_17 : decode c12_isRest 17 = .ok (.iload_n 2, 1) := by decide +kernel
theorem d12_isRest_18 : decode c12_isRest 18 = .ok (.iadd, 1) := by decide +kernel
theorem d12_isRest_19 : decode c12_isRest 19 = .ok (.imul, 1) := by decide +kernel
theorem d12_isRest_20 : decode c12_isRest 20 = .ok (.iaload, 1) := by decide +kernel
theorem d12_isRest_21 : decode c12_isRest 21 = .ok (.aload_n 0, 1) := by decide +kernel
theorem d12_isRest_22 : decode c12_isRest 22 = .ok (.getfield 64, 3) := by decide +kernel
theorem d12_isRest_25 : decode c12_isRest 25 = .ok (.iconst 2, 1) := by decide +kernel
theorem d12_isRest_26 : decode c12_isRest 26 = .ok (.bipush 8, 2) := by decide +kernel
theorem d12_isRest_28 : decode c12_isRest 28 = .ok (.iload_n 1, 1) := by decide +kernel
theorem d12_isRest_29 : decode c12_isRest 29 = .ok (.imul, 1) := by decide +kernel
theorem d12_isRest_30 : decode c12_isRest 30 = .ok (.iload_n 2, 1) := by decide +kernel
theorem d12_isRest_31 : decode c12_isRest 31 = .ok (.iadd, 1) := by decide +kernel
theorem d12_isRest_32 : decode c12_isRest 32 = .ok (.imul, 1) := by decide +kernel
theorem d12_isRest_33 : decode c12_isRest 33 = .ok (.iaload, 1) := by decide +kernel
theorem d12_isRest_34 : decode c12_isRest 34 = .ok (.if_icmp .gt 36, 3) := by decide +kernel
theorem d12_isRest_37 : decode c12_isRest 37 = .ok (.aload_n 0, 1) := by decide +kernel
theorem d12_isRest_38 : decode c12_isRest 38 = .ok (.getfield 64, 3) := by decide +kernel
theorem d12_isRest_41 : decode c12_isRest 41 = .ok (.iconst 2, 1) := by decide +kernel
theorem d12_isRest_42 : decode c12_isRest 42 = .ok (.bipush 8, 2) := by decide +kernel
theorem d12_isRest_44 : decode c12_isRest 44 = .ok (.iload_n 1, 1) := by decide +kernel
theorem d12_isRest_45 : decode c12_isRest 45 = .ok (.imul, 1) := by decide +kernel
theorem d12_isRest_46 : decode c12_isRest 46 = .ok (.iload_n 3, 1) := by decide +kernel
theorem d12_isRest_47 : decode c12_isRest 47 = .ok (.iadd, 1) := by decide +kernel
theorem d12_isRest_48 : decode c12_isRest 48 = .ok (.imul, 1) := by decide +kernel
theorem d12_isRest_49 : decode c12_isRest 49 = .ok (.iconst 1, 1) := by decide +kernel
theorem d12_isRest_50 : decode c12_isRest 50 = .ok (.iadd, 1) := by decide +kernel
theorem d12_isRest_51 : decode c12_isRest 51 = .ok (.iaload, 1) := by decide +kernel
theorem d12_isRest_52 : decode c12_isRest 52 = .ok (.aload_n 0, 1) := by decide +kernel
theorem d12_isRest_53 : decode c12_isRest 53 = .ok (.getfield 64, 3) := by decide +kernel
theorem d12_isRest_56 : decode c12_isRest 56 = .ok (.iconst 2, 1) := by decide +kernel
theorem d12_isRest_57 : decode c12_isRest 57 = .ok (.bipush 8, 2) := by decide +kernel
theorem d12_isRest_59 : decode c12_isRest 59 = .ok (.iload_n 1, 1) := by decide +kernel
theorem d12_isRest_60 : decode c12_isRest 60 = .ok (.imul, 1) := by decide +kernel
theorem d12_isRest_61 : decode c12_isRest 61 = .ok (.iload_n 2, 1) := by decide +kernel
theorem d12_isRest_62 : decode c12_isRest 62 = .ok (.iadd, 1) := by decide +kernel
theorem d12_isRest_63 : decode c12_isRest 63 = .ok (.imul, 1) := by decide +kernel
theorem d12_isRest_64 : decode c12_isRest 64 = .ok (.iconst 1, 1) := by decide +kernel
theorem d12_isRest_65 : decode c12_isRest 65 = .ok (.iadd, 1) := by decide +kernel
theorem d12_isRest_66 : decode c12_isRest 66 = .ok (.iaload, 1) := by decide +kernel
theorem d12_isRest_67 : decode c12_isRest 67 = .ok (.if_icmp .le 5, 3) := by decide +kernel
theorem d12_isRest_70 : decode c12_isRest 70 = .ok (.iconst 0, 1) := by decide +kernel
theorem d12_isRest_71 : decode c12_isRest 71 = .ok (.ireturn, 1) := by decide +kernel
theorem d12_isRest_72 : decode c12_isRest 72 = .ok (.iinc 3 1, 3) := by decide +kernel
theorem d12_isRest_75 : decode c12_isRest 75 = .ok (.goto (-73), 3) := by decide +kernel
theorem d12_isRest_78 : decode c12_isRest 78 = .ok (.iconst 1, 1) := by decide +kernel
theorem d12_isRest_79 : decode c12_isRest 79 = .ok (.ireturn, 1) := by decide +kernel
abbrev c12_getsNow : ByteArray := prog_14_method_98_code
def y12_getsNow : MethodName := ⟨RX12, "getsNow", "(I)I"⟩
theorem d12_getsNow_0 : decode c12_getsNow 0 = .ok (.aload_n 0, 1) := by decide +kernel
theorem d12_getsNow_1 : decode c12_getsNow 1 = .ok (.getfield 343, 3) := by decide +kernel
theorem d12_getsNow_4 : decode c12_getsNow 4 = .ok (.iload_n 1, 1) := by decide +kernel
theorem d12_getsNow_5 : decode c12_getsNow 5 = .ok (.ishr, 1) := by decide +kernel
theorem d12_getsNow_6 : decode c12_getsNow 6 = .ok (.iconst 1, 1) := by decide +kernel
theorem d12_getsNow_7 : decode c12_getsNow 7 = .ok (.iand, 1) := by decide +kernel
theorem d12_getsNow_8 : decode c12_getsNow 8 = .ok (.aload_n 0, 1) := by decide +kernel
theorem d12_getsNow_9 : decode c12_getsNow 9 = .ok (.getfield 340, 3) := by decide +kernel
theorem d12_getsNow_12 : decode c12_getsNow 12 = .ok (.iload_n 1, 1) := by decide +kernel
theorem d12_getsNow_13 : decode c12_getsNow 13 = .ok (.ishr, 1) := by decide +kernel
theorem d12_getsNow_14 : decode c12_getsNow 14 = .ok (.iconst 1, 1) := by decide +kernel
theorem d12_getsNow_15 : decode c12_getsNow 15 = .ok (.iand, 1) := by decide +kernel
theorem d12_getsNow_16 : decode c12_getsNow 16 = .ok (.isub, 1) := by decide +kernel
theorem d12_getsNow_17 : decode c12_getsNow 17 = .ok (.ireturn, 1) := by decide +kernel
abbrev c12_fillsRest : ByteArray := prog_14_method_99_code
def y12_fillsRest : MethodName := ⟨RX12, "fillsRest", "(IIII)V"⟩
theorem d12_fillsRest_0 : decode c12_fillsRest 0 = .ok (.iconst 2, 1) := by decide +kernel
theorem d12_fillsRest_1 : decode c12_fillsRest 1 = .ok (.iload_n 3, 1) := by decide +kernel
theorem d12_fillsRest_2 : decode c12_fillsRest 2 = .ok (.imul, 1) := by decide +kernel
theorem d12_fillsRest_3 : decode c12_fillsRest 3 = .ok (.istore 5, 2) := by decide +kernel
theorem d12_fillsRest_5 : decode c12_fillsRest 5 = .ok (.aload_n 0, 1) := by decide +kernel
theorem d12_fillsRest_6 : decode c12_fillsRest 6 = .ok (.getfield 64, 3) := by decide +kernel
theorem d12_fillsRest_9 : decode c12_fillsRest 9 = .ok (.iload 5, 2) := by decide +kernel
theorem d12_fillsRest_11 : decode c12_fillsRest 11 = .ok (.iconst 0, 1) := by decide +kernel
theorem d12_fillsRest_12 : decode c12_fillsRest 12 = .ok (.iastore, 1) := by decide +kernel
theorem d12_fillsRest_13 : decode c12_fillsRest 13 = .ok (.aload_n 0, 1) := by decide +kernel
theorem d12_fillsRest_14 : decode c12_fillsRest 14 = .ok (.getfield 64, 3) := by decide +kernel
theorem d12_fillsRest_17 : decode c12_fillsRest 17 = .ok (.iload 5, 2) := by decide +kernel
theorem d12_fillsRest_19 : decode c12_fillsRest 19 = .ok (.iconst 1, 1) := by decide +kernel
theorem d12_fillsRest_20 : decode c12_fillsRest 20 = .ok (.iadd, 1) := by decide +kernel
theorem d12_fillsRest_21 : decode c12_fillsRest 21 = .ok (.iconst 0, 1) := by decide +kernel
theorem d12_fillsRest_22 : decode c12_fillsRest 22 = .ok (.iastore, 1) := by decide +kernel
theorem d12_fillsRest_23 : decode c12_fillsRest 23 = .ok (.aload_n 0, 1) := by decide +kernel
theorem d12_fillsRest_24 : decode c12_fillsRest 24 = .ok (.getfield 39, 3) := by decide +kernel
theorem d12_fillsRest_27 : decode c12_fillsRest 27 = .ok (.bipush 13, 2) := by decide +kernel
theorem d12_fillsRest_29 : decode c12_fillsRest 29 = .ok (.iload_n 1, 1) := by decide +kernel
theorem d12_fillsRest_30 : decode c12_fillsRest 30 = .ok (.iadd, 1) := by decide +kernel
theorem d12_fillsRest_31 : decode c12_fillsRest 31 = .ok (.iload_n 3, 1) := by decide +kernel
theorem d12_fillsRest_32 : decode c12_fillsRest 32 = .ok (.bipush 8, 2) := by decide +kernel
theorem d12_fillsRest_34 : decode c12_fillsRest 34 = .ok (.idiv, 1) := by decide +kernel
theorem d12_fillsRest_35 : decode c12_fillsRest 35 = .ok (.iastore, 1) := by decide +kernel
theorem d12_fillsRest_36 : decode c12_fillsRest 36 = .ok (.aload_n 0, 1) := by decide +kernel
theorem d12_fillsRest_37 : decode c12_fillsRest 37 = .ok (.getfield 39, 3) := by decide +kernel
theorem d12_fillsRest_40 : decode c12_fillsRest 40 = .ok (.bipush 13, 2) := by decide +kernel
theorem d12_fillsRest_42 : decode c12_fillsRest 42 = .ok (.iload_n 2, 1) := by decide +kernel
theorem d12_fillsRest_43 : decode c12_fillsRest 43 = .ok (.iadd, 1) := by decide +kernel
theorem d12_fillsRest_44 : decode c12_fillsRest 44 = .ok (.iload_n 3, 1) := by decide +kernel
theorem d12_fillsRest_45 : decode c12_fillsRest 45 = .ok (.bipush 8, 2) := by decide +kernel
theorem d12_fillsRest_47 : decode c12_fillsRest 47 = .ok (.irem, 1) := by decide +kernel
theorem d12_fillsRest_48 : decode c12_fillsRest 48 = .ok (.iastore, 1) := by decide +kernel
theorem d12_fillsRest_49 : decode c12_fillsRest 49 = .ok (.iconst 0, 1) := by decide +kernel
theorem d12_fillsRest_50 : decode c12_fillsRest 50 = .ok (.istore 6, 2) := by decide +kernel
theorem d12_fillsRest_52 : decode c12_fillsRest 52 = .ok (.iload 6, 2) := by decide +kernel
theorem d12_fillsRest_54 : decode c12_fillsRest 54 = .ok (.iload 4, 2) := by decide +kernel
theorem d12_fillsRest_56 : decode c12_fillsRest 56 = .ok (.if_icmp .ge 46, 3) := by decide +kernel
theorem d12_fillsRest_59 : decode c12_fillsRest 59 = .ok (.aload_n 0, 1) := by decide +kernel
theorem d12_fillsRest_60 : decode c12_fillsRest 60 = .ok (.invokevirtual 358, 3) := by decide +kernel
theorem d12_fillsRest_63 : decode c12_fillsRest 63 = .ok (.pop, 1) := by decide +kernel
theorem d12_fillsRest_64 : decode c12_fillsRest 64 = .ok (.aload_n 0, 1) := by decide +kernel
theorem d12_fillsRest_65 : decode c12_fillsRest 65 = .ok (.getfield 64, 3) := by decide +kernel
theorem d12_fillsRest_68 : decode c12_fillsRest 68 = .ok (.iload 5, 2) := by decide +kernel
theorem d12_fillsRest_70 : decode c12_fillsRest 70 = .ok (.dup2, 1) := by decide +kernel
theorem d12_fillsRest_71 : decode c12_fillsRest 71 = .ok (.iaload, 1) := by decide +kernel
theorem d12_fillsRest_72 : decode c12_fillsRest 72 = .ok (.aload_n 0, 1) := by decide +kernel
theorem d12_fillsRest_73 : decode c12_fillsRest 73 = .ok (.iload_n 1, 1) := by decide +kernel
theorem d12_fillsRest_74 : decode c12_fillsRest 74 = .ok (.invokevirtual 417, 3) := by decide +kernel
theorem d12_fillsRest_77 : decode c12_fillsRest 77 = .ok (.iadd, 1) := by decide +kernel
theorem d12_fillsRest_78 : decode c12_fillsRest 78 = .ok (.iastore, 1) := by decide +kernel
theorem d12_fillsRest_79 : decode c12_fillsRest 79 = .ok (.aload_n 0, 1) := by decide +kernel
theorem d12_fillsRest_80 : decode c12_fillsRest 80 = .ok (.getfield 64, 3) := by decide +kernel
theorem d12_fillsRest_83 : decode c12_fillsRest 83 = .ok (.iload 5, 2) := by decide +kernel
theorem d12_fillsRest_85 : decode c12_fillsRest 85 = .ok (.iconst 1, 1) := by decide +kernel
theorem d12_fillsRest_86 : decode c12_fillsRest 86 = .ok (.iadd, 1) := by decide +kernel
theorem d12_fillsRest_87 : decode c12_fillsRest 87 = .ok (.dup2, 1) := by decide +kernel
theorem d12_fillsRest_88 : decode c12_fillsRest 88 = .ok (.iaload, 1) := by decide +kernel
theorem d12_fillsRest_89 : decode c12_fillsRest 89 = .ok (.aload_n 0, 1) := by decide +kernel
theorem d12_fillsRest_90 : decode c12_fillsRest 90 = .ok (.iload_n 2, 1) := by decide +kernel
theorem d12_fillsRest_91 : decode c12_fillsRest 91 = .ok (.invokevirtual 417, 3) := by decide +kernel
theorem d12_fillsRest_94 : decode c12_fillsRest 94 = .ok (.iadd, 1) := by decide +kernel
theorem d12_fillsRest_95 : decode c12_fillsRest 95 = .ok (.iastore, 1) := by decide +kernel
theorem d12_fillsRest_96 : decode c12_fillsRest 96 = .ok (.iinc 6 1, 3) := by decide +kernel
theorem d12_fillsRest_99 : decode c12_fillsRest 99 = .ok (.goto (-47), 3) := by decide +kernel
theorem d12_fillsRest_102 : decode c12_fillsRest 102 = .ok (.aload_n 0, 1) := by decide +kernel
theorem d12_fillsRest_103 : decode c12_fillsRest 103 = .ok (.invokevirtual 378, 3) := by decide +kernel
theorem d12_fillsRest_106 : decode c12_fillsRest 106 = .ok (.return_, 1) := by decide +kernel
abbrev c12_rests : ByteArray := prog_14_method_100_code
def y12_rests : MethodName := ⟨RX12, "rests", "(IIII)I"⟩
theorem d12_rests_0 : decode c12_rests 0 = .ok (.aload_n 0, 1) := by decide +kernel
theorem d12_rests_1 : decode c12_rests 1 = .ok (.iload_n 1, 1) := by decide +kernel
theorem d12_rests_2 : decode c12_rests 2 = .ok (.invokevirtual 299, 3) := by decide +kernel
theorem d12_rests_5 : decode c12_rests 5 = .ok (.ifCond .eq 41, 3) := by decide +kernel
theorem d12_rests_8 : decode c12_rests 8 = .ok (.aload_n 0, 1) := by decide +kernel
theorem d12_rests_9 : decode c12_rests 9 = .ok (.iload_n 2, 1) := by decide +kernel
theorem d12_rests_10 : decode c12_rests 10 = .ok (.invokevirtual 299, 3) := by decide +kernel
theorem d12_rests_13 : decode c12_rests 13 = .ok (.ifCond .eq 33, 3) := by decide +kernel
theorem d12_rests_16 : decode c12_rests 16 = .ok (.iload_n 1, 1) := by decide +kernel
theorem d12_rests_17 : decode c12_rests 17 = .ok (.iload_n 2, 1) := by decide +kernel
theorem d12_rests_18 : decode c12_rests 18 = .ok (.if_icmp .eq 28, 3) := by decide +kernel
theorem d12_rests_21 : decode c12_rests 21 = .ok (.iload_n 3, 1) := by decide +kernel
theorem d12_rests_22 : decode c12_rests 22 = .ok (.i2l, 1) := by decide +kernel
theorem d12_rests_23 : decode c12_rests 23 = .ok (.lconst 1, 1) := by decide +kernel
theorem d12_rests_24 : decode c12_rests 24 = .ok (.ldc2_w 420, 3) := by decide +kernel
theorem d12_rests_27 : decode c12_rests 27 = .ok (.invokestatic 127, 3) := by decide +kernel
theorem d12_rests_30 : decode c12_rests 30 = .ok (.ifCond .eq 16, 3) := by decide +kernel
theorem d12_rests_33 : decode c12_rests 33 = .ok (.iload 4, 2) := by decide +kernel
theorem d12_rests_35 : decode c12_rests 35 = .ok (.i2l, 1) := by decide +kernel
theorem d12_rests_36 : decode c12_rests 36 = .ok (.lconst 0, 1) := by decide +kernel
theorem d12_rests_37 : decode c12_rests 37 = .ok (.ldc2_w 398, 3) := by decide +kernel
theorem d12_rests_40 : decode c12_rests 40 = .ok (.invokestatic 127, 3) := by decide +kernel
theorem d12_rests_43 : decode c12_rests 43 = .ok (.ifCond .ne 5, 3) := by decide +kernel
theorem d12_rests_46 : decode c12_rests 46 = .ok (.iconst (-1), 1) := by decide +kernel
theorem d12_rests_47 : decode c12_rests 47 = .ok (.ireturn, 1) := by decide +kernel
theorem d12_rests_48 : decode c12_rests 48 = .ok (.aload_n 0, 1) := by decide +kernel
theorem d12_rests_49 : decode c12_rests 49 = .ok (.invokevirtual 372, 3) := by decide +kernel
theorem d12_rests_52 : decode c12_rests 52 = .ok (.iconst 0, 1) := by decide +kernel
theorem d12_rests_53 : decode c12_rests 53 = .ok (.istore 5, 2) := by decide +kernel
theorem d12_rests_55 : decode c12_rests 55 = .ok (.iload 5, 2) := by decide +kernel
theorem d12_rests_57 : decode c12_rests 57 = .ok (.bipush 64, 2) := by decide +kernel
theorem d12_rests_59 : decode c12_rests 59 = .ok (.if_icmp .ge 18, 3) := by decide +kernel
theorem d12_rests_62 : decode c12_rests 62 = .ok (.aload_n 0, 1) := by decide +kernel
theorem d12_rests_63 : decode c12_rests 63 = .ok (.iload_n 1, 1) := by decide +kernel
theorem d12_rests_64 : decode c12_rests 64 = .ok (.iload_n 2, 1) := by decide +kernel
theorem d12_rests_65 : decode c12_rests 65 = .ok (.iload 5, 2) := by decide +kernel
theorem d12_rests_67 : decode c12_rests 67 = .ok (.iload_n 3, 1) := by decide +kernel
theorem d12_rests_68 : decode c12_rests 68 = .ok (.invokevirtual 422, 3) := by decide +kernel
theorem d12_rests_71 : decode c12_rests 71 = .ok (.iinc 5 1, 3) := by decide +kernel
theorem d12_rests_74 : decode c12_rests 74 = .ok (.goto (-19), 3) := by decide +kernel
theorem d12_rests_77 : decode c12_rests 77 = .ok (.iconst 0, 1) := by decide +kernel
theorem d12_rests_78 : decode c12_rests 78 = .ok (.istore 5, 2) := by decide +kernel
theorem d12_rests_80 : decode c12_rests 80 = .ok (.iconst (-1), 1) := by decide +kernel
theorem d12_rests_81 : decode c12_rests 81 = .ok (.istore 6, 2) := by decide +kernel
theorem d12_rests_83 : decode c12_rests 83 = .ok (.bipush 63, 2) := by decide +kernel
theorem d12_rests_85 : decode c12_rests 85 = .ok (.istore 7, 2) := by decide +kernel
theorem d12_rests_87 : decode c12_rests 87 = .ok (.iload 7, 2) := by decide +kernel
theorem d12_rests_89 : decode c12_rests 89 = .ok (.ifCond .lt 36, 3) := by decide +kernel
theorem d12_rests_92 : decode c12_rests 92 = .ok (.aload_n 0, 1) := by decide +kernel
theorem d12_rests_93 : decode c12_rests 93 = .ok (.iload 7, 2) := by decide +kernel
theorem d12_rests_95 : decode c12_rests 95 = .ok (.bipush 8, 2) := by decide +kernel
theorem d12_rests_97 : decode c12_rests 97 = .ok (.idiv, 1) := by decide +kernel
theorem d12_rests_98 : decode c12_rests 98 = .ok (.iload 7, 2) := by decide +kernel
theorem d12_rests_100 : decode c12_rests 100 = .ok (.bipush 8, 2) := by decide +kernel
theorem d12_rests_102 : decode c12_rests 102 = .ok (.irem, 1) := by decide +kernel
theorem d12_rests_103 : decode c12_rests 103 = .ok (.invokevirtual 426, 3) := by decide +kernel
theorem d12_rests_106 : decode c12_rests 106 = .ok (.ifCond .ne 6, 3) := by decide +kernel
theorem d12_rests_109 : decode c12_rests 109 = .ok (.goto 10, 3) := by decide +kernel
theorem d12_rests_112 : decode c12_rests 112 = .ok (.iload 7, 2) := by decide +kernel
theorem d12_rests_114 : decode c12_rests 114 = .ok (.istore 6, 2) := by decide +kernel
theorem d12_rests_116 : decode c12_rests 116 = .ok (.iinc 5 1, 3) := by decide +kernel
theorem d12_rests_119 : decode c12_rests 119 = .ok (.iinc 7 (-1), 3) := by decide +kernel
theorem d12_rests_122 : decode c12_rests 122 = .ok (.goto (-35), 3) := by decide +kernel
theorem d12_rests_125 : decode c12_rests 125 = .ok (.iload 4, 2) := by decide +kernel
theorem d12_rests_127 : decode c12_rests 127 = .ok (.ifCond .ne 6, 3) := by decide +kernel
theorem d12_rests_130 : decode c12_rests 130 = .ok (.iload 5, 2) := by decide +kernel
theorem d12_rests_132 : decode c12_rests 132 = .ok (.ireturn, 1) := by decide +kernel
theorem d12_rests_133 : decode c12_rests 133 = .ok (.iload 6, 2) := by decide +kernel
theorem d12_rests_135 : decode c12_rests 135 = .ok (.ifCond .ge 8, 3) := by decide +kernel
theorem d12_rests_138 : decode c12_rests 138 = .ok (.bipush (-2), 2) := by decide +kernel
theorem d12_rests_140 : decode c12_rests 140 = .ok (.goto 22, 3) := by decide +kernel
theorem d12_rests_143 : decode c12_rests 143 = .ok (.iload 4, 2) := by decide +kernel
theorem d12_rests_145 : decode c12_rests 145 = .ok (.iconst 1, 1) := by decide +kernel
theorem d12_rests_146 : decode c12_rests 146 = .ok (.if_icmp .ne 11, 3) := by decide +kernel
theorem d12_rests_149 : decode c12_rests 149 = .ok (.iload 6, 2) := by decide +kernel
theorem d12_rests_151 : decode c12_rests 151 = .ok (.bipush 8, 2) := by decide +kernel
theorem d12_rests_153 : decode c12_rests 153 = .ok (.idiv, 1) := by decide +kernel
theorem d12_rests_154 : decode c12_rests 154 = .ok (.goto 8, 3) := by decide +kernel
theorem d12_rests_157 : decode c12_rests 157 = .ok (.iload 6, 2) := by decide +kernel
theorem d12_rests_159 : decode c12_rests 159 = .ok (.bipush 8, 2) := by decide +kernel
theorem d12_rests_161 : decode c12_rests 161 = .ok (.irem, 1) := by decide +kernel
theorem d12_rests_162 : decode c12_rests 162 = .ok (.ireturn, 1) := by decide +kernel
abbrev c12_areAlike : ByteArray := prog_14_method_101_code
def y12_areAlike : MethodName := ⟨RX12, "areAlike", "(II)Z"⟩
theorem d12_areAlike_0 : decode c12_areAlike 0 = .ok (.iload_n 2, 1) := by decide +kernel
theorem d12_areAlike_1 : decode c12_areAlike 1 = .ok (.iload_n 1, 1) := by decide +kernel
theorem d12_areAlike_2 : decode c12_areAlike 2 = .ok (.isub, 1) := by decide +kernel
theorem d12_areAlike_3 : decode c12_areAlike 3 = .ok (.aload_n 0, 1) := by decide +kernel
theorem d12_areAlike_4 : decode c12_areAlike 4 = .ok (.invokevirtual 308, 3) := by decide +kernel
theorem d12_areAlike_7 : decode c12_areAlike 7 = .ok (.irem, 1) := by decide +kernel
theorem d12_areAlike_8 : decode c12_areAlike 8 = .ok (.ifCond .eq 5, 3) := by decide +kernel
theorem d12_areAlike_11 : decode c12_areAlike 11 = .ok (.iconst 0, 1) := by decide +kernel
theorem d12_areAlike_12 : decode c12_areAlike 12 = .ok (.ireturn, 1) := by decide +kernel
theorem d12_areAlike_13 : decode c12_areAlike 13 = .ok (.iconst 0, 1) := by decide +kernel
theorem d12_areAlike_14 : decode c12_areAlike 14 = .ok (.istore_n 3, 1) := by decide +kernel
theorem d12_areAlike_15 : decode c12_areAlike 15 = .ok (.iload_n 3, 1) := by decide +kernel
theorem d12_areAlike_16 : decode c12_areAlike 16 = .ok (.aload_n 0, 1) := by decide +kernel
theorem d12_areAlike_17 : decode c12_areAlike 17 = .ok (.getfield 39, 3) := by decide +kernel
theorem d12_areAlike_20 : decode c12_areAlike 20 = .ok (.iconst 3, 1) := by decide +kernel
theorem d12_areAlike_21 : decode c12_areAlike 21 = .ok (.iaload, 1) := by decide +kernel
theorem d12_areAlike_22 : decode c12_areAlike 22 = .ok (.if_icmp .ge 36, 3) := by decide +kernel
theorem d12_areAlike_25 : decode c12_areAlike 25 = .ok (.aload_n 0, 1) := by decide +kernel
theorem d12_areAlike_26 : decode c12_areAlike 26 = .ok (.getfield 67, 3) := by decide +kernel
theorem d12_areAlike_29 : decode c12_areAlike 29 = .ok (.bipush 10, 2) := by decide +kernel
theorem d12_areAlike_31 : decode c12_areAlike 31 = .ok (.iload_n 1, 1) := by decide +kernel
theorem d12_areAlike_32 : decode c12_areAlike 32 = .ok (.imul, 1) := by decide +kernel
theorem d12_areAlike_33 : decode c12_areAlike 33 = .ok (.iload_n 3, 1) := by decide +kernel
theorem d12_areAlike_34 : decode c12_areAlike 34 = .ok (.iadd, 1) := by decide +kernel
theorem d12_areAlike_35 : decode c12_areAlike 35 = .ok (.iaload, 1) := by decide +kernel
theorem d12_areAlike_36 : decode c12_areAlike 36 = .ok (.aload_n 0, 1) := by decide +kernel
theorem d12_areAlike_37 : decode c12_areAlike 37 = .ok (.getfield 67, 3) := by decide +kernel
theorem d12_areAlike_40 : decode c12_areAlike 40 = .ok (.bipush 10, 2) := by decide +kernel
theorem d12_areAlike_42 : decode c12_areAlike 42 = .ok (.iload_n 2, 1) := by decide +kernel
theorem d12_areAlike_43 : decode c12_areAlike 43 = .ok (.imul, 1) := by decide +kernel
theorem d12_areAlike_44 : decode c12_areAlike 44 = .ok (.iload_n 3, 1) := by decide +kernel
theorem d12_areAlike_45 : decode c12_areAlike 45 = .ok (.iadd, 1) := by decide +kernel
theorem d12_areAlike_46 : decode c12_areAlike 46 = .ok (.iaload, 1) := by decide +kernel
theorem d12_areAlike_47 : decode c12_areAlike 47 = .ok (.if_icmp .eq 5, 3) := by decide +kernel
theorem d12_areAlike_50 : decode c12_areAlike 50 = .ok (.iconst 0, 1) := by decide +kernel
theorem d12_areAlike_51 : decode c12_areAlike 51 = .ok (.ireturn, 1) := by decide +kernel
theorem d12_areAlike_52 : decode c12_areAlike 52 = .ok (.iinc 3 1, 3) := by decide +kernel
theorem d12_areAlike_55 : decode c12_areAlike 55 = .ok (.goto (-40), 3) := by decide +kernel
theorem d12_areAlike_58 : decode c12_areAlike 58 = .ok (.iconst 1, 1) := by decide +kernel
theorem d12_areAlike_59 : decode c12_areAlike 59 = .ok (.ireturn, 1) := by decide +kernel
abbrev c12_ring : ByteArray := prog_14_method_102_code
def y12_ring : MethodName := ⟨RX12, "ring", "(I)I"⟩
theorem d12_ring_0 : decode c12_ring 0 = .ok (.aload_n 0, 1) := by decide +kernel
theorem d12_ring_1 : decode c12_ring 1 = .ok (.invokevirtual 293, 3) := by decide +kernel
theorem d12_ring_4 : decode c12_ring 4 = .ok (.ifCond .eq 13, 3) := by decide +kernel
theorem d12_ring_7 : decode c12_ring 7 = .ok (.iload_n 1, 1) := by decide +kernel
theorem d12_ring_8 : decode c12_ring 8 = .ok (.i2l, 1) := by decide +kernel
theorem d12_ring_9 : decode c12_ring 9 = .ok (.lconst 0, 1) := by decide +kernel
theorem d12_ring_10 : decode c12_ring 10 = .ok (.lconst 1, 1) := by decide +kernel
theorem d12_ring_11 : decode c12_ring 11 = .ok (.invokestatic 127, 3) := by decide +kernel
theorem d12_ring_14 : decode c12_ring 14 = .ok (.ifCond .ne 5, 3) := by decide +kernel
theorem d12_ring_17 : decode c12_ring 17 = .ok (.iconst (-1), 1) := by decide +kernel
theorem d12_ring_18 : decode c12_ring 18 = .ok (.ireturn, 1) := by decide +kernel
theorem d12_ring_19 : decode c12_ring 19 = .ok (.aload_n 0, 1) := by decide +kernel
theorem d12_ring_20 : decode c12_ring 20 = .ok (.invokevirtual 372, 3) := by decide +kernel
theorem d12_ring_23 : decode c12_ring 23 = .ok (.iconst 0, 1) := by decide +kernel
theorem d12_ring_24 : decode c12_ring 24 = .ok (.istore_n 2, 1) := by decide +kernel
theorem d12_ring_25 : decode c12_ring 25 = .ok (.iload_n 2, 1) := by decide +kernel
theorem d12_ring_26 : decode c12_ring 26 = .ok (.bipush 60, 2) := by decide +kernel
theorem d12_ring_28 : decode c12_ring 28 = .ok (.if_icmp .gt 52, 3) := by decide +kernel
theorem d12_ring_31 : decode c12_ring 31 = .ok (.iconst 0, 1) := by decide +kernel
theorem d12_ring_32 : decode c12_ring 32 = .ok (.istore_n 3, 1) := by decide +kernel
theorem d12_ring_33 : decode c12_ring 33 = .ok (.iload_n 3, 1) := by decide +kernel
theorem d12_ring_34 : decode c12_ring 34 = .ok (.aload_n 0, 1) := by decide +kernel
theorem d12_ring_35 : decode c12_ring 35 = .ok (.getfield 39, 3) := by decide +kernel
theorem d12_ring_38 : decode c12_ring 38 = .ok (.iconst 3, 1) := by decide +kernel
theorem d12_ring_39 : decode c12_ring 39 = .ok (.iaload, 1) := by decide +kernel
theorem d12_ring_40 : decode c12_ring 40 = .ok (.if_icmp .ge 29, 3) := by decide +kernel
theorem d12_ring_43 : decode c12_ring 43 = .ok (.aload_n 0, 1) := by decide +kernel
theorem d12_ring_44 : decode c12_ring 44 = .ok (.getfield 67, 3) := by decide +kernel
theorem d12_ring_47 : decode c12_ring 47 = .ok (.bipush 10, 2) := by decide +kernel
theorem d12_ring_49 : decode c12_ring 49 = .ok (.iload_n 2, 1) := by decide +kernel
theorem d12_ring_50 : decode c12_ring 50 = .ok (.imul, 1) := by decide +kernel
theorem d12_ring_51 : decode c12_ring 51 = .ok (.iload_n 3, 1) := by decide +kernel
theorem d12_ring_52 : decode c12_ring 52 = .ok (.iadd, 1) := by decide +kernel
theorem d12_ring_53 : decode c12_ring 53 = .ok (.aload_n 0, 1) := by decide +kernel
theorem d12_ring_54 : decode c12_ring 54 = .ok (.getfield 39, 3) := by decide +kernel
theorem d12_ring_57 : decode c12_ring 57 = .ok (.bipush 13, 2) := by decide +kernel
theorem d12_ring_59 : decode c12_ring 59 = .ok (.iload_n 3, 1) := by decide +kernel
theorem d12_ring_60 : decode c12_ring 60 = .ok (.iadd, 1) := by decide +kernel
theorem d12_ring_61 : decode c12_ring 61 = .ok (.iaload, 1) := by decide +kernel
theorem d12_ring_62 : decode c12_ring 62 = .ok (.iastore, 1) := by decide +kernel
theorem d12_ring_63 : decode c12_ring 63 = .ok (.iinc 3 1, 3) := by decide +kernel
theorem d12_ring_66 : decode c12_ring 66 = .ok (.goto (-33), 3) := by decide +kernel
theorem d12_ring_69 : decode c12_ring 69 = .ok (.aload_n 0, 1) := by decide +kernel
theorem d12_ring_70 : decode c12_ring 70 = .ok (.invokevirtual 358, 3) := by decide +kernel
theorem d12_ring_73 : decode c12_ring 73 = .ok (.pop, 1) := by decide +kernel
theorem d12_ring_74 : decode c12_ring 74 = .ok (.iinc 2 1, 3) := by decide +kernel
theorem d12_ring_77 : decode c12_ring 77 = .ok (.goto (-52), 3) := by decide +kernel
theorem d12_ring_80 : decode c12_ring 80 = .ok (.aload_n 0, 1) := by decide +kernel
theorem d12_ring_81 : decode c12_ring 81 = .ok (.invokevirtual 378, 3) := by decide +kernel
theorem d12_ring_84 : decode c12_ring 84 = .ok (.iconst 0, 1) := by decide +kernel
theorem d12_ring_85 : decode c12_ring 85 = .ok (.istore_n 2, 1) := by decide +kernel
theorem d12_ring_86 : decode c12_ring 86 = .ok (.iload_n 2, 1) := by decide +kernel
theorem d12_ring_87 : decode c12_ring 87 = .ok (.bipush 60, 2) := by decide +kernel
theorem d12_ring_89 : decode c12_ring 89 = .ok (.if_icmp .ge 54, 3) := by decide +kernel
theorem d12_ring_92 : decode c12_ring 92 = .ok (.iload_n 2, 1) := by decide +kernel
theorem d12_ring_93 : decode c12_ring 93 = .ok (.iconst 1, 1) := by decide +kernel
theorem d12_ring_94 : decode c12_ring 94 = .ok (.iadd, 1) := by decide +kernel
theorem d12_ring_95 : decode c12_ring 95 = .ok (.istore_n 3, 1) := by decide +kernel
theorem d12_ring_96 : decode c12_ring 96 = .ok (.iload_n 3, 1) := by decide +kernel
theorem d12_ring_97 : decode c12_ring 97 = .ok (.bipush 60, 2) := by decide +kernel
theorem d12_ring_99 : decode c12_ring 99 = .ok (.if_icmp .gt 38, 3) := by decide +kernel
theorem d12_ring_102 : decode c12_ring 102 = .ok (.aload_n 0, 1) := by decide +kernel
theorem d12_ring_103 : decode c12_ring 103 = .ok (.iload_n 2, 1) := by decide +kernel
theorem d12_ring_104 : decode c12_ring 104 = .ok (.iload_n 3, 1) := by decide +kernel
theorem d12_ring_105 : decode c12_ring 105 = .ok (.invokevirtual 429, 3) := by decide +kernel
theorem d12_ring_108 : decode c12_ring 108 = .ok (.ifCond .eq 23, 3) := by decide +kernel
theorem d12_ring_111 : decode c12_ring 111 = .ok (.iload_n 1, 1) := by decide +kernel
theorem d12_ring_112 : decode c12_ring 112 = .ok (.ifCond .ne 15, 3) := by decide +kernel
theorem d12_ring_115 : decode c12_ring 115 = .ok (.aload_n 0, 1) := by decide +kernel
theorem d12_ring_116 : decode c12_ring 116 = .ok (.getfield 39, 3) := by decide +kernel
theorem d12_ring_119 : decode c12_ring 119 = .ok (.bipush 10, 2) := by decide +kernel
theorem d12_ring_121 : decode c12_ring 121 = .ok (.iaload, 1) := by decide +kernel
theorem d12_ring_122 : decode c12_ring 122 = .ok (.iload_n 2, 1) := by decide +kernel
theorem d12_ring_123 : decode c12_ring 123 = .ok (.iadd, 1) := by decide +kernel
theorem d12_ring_124 : decode c12_ring 124 = .ok (.goto 6, 3) := by decide +kernel
theorem d12_ring_127 : decode c12_ring 127 = .ok (.iload_n 3, 1) := by decide +kernel
theorem d12_ring_128 : decode c12_ring 128 = .ok (.iload_n 2, 1) := by decide +kernel
theorem d12_ring_129 : decode c12_ring 129 = .ok (.isub, 1) := by decide +kernel
theorem d12_ring_130 : decode c12_ring 130 = .ok (.ireturn, 1) := by decide +kernel
theorem d12_ring_131 : decode c12_ring 131 = .ok (.iinc 3 1, 3) := by decide +kernel
theorem d12_ring_134 : decode c12_ring 134 = .ok (.goto (-38), 3) := by decide +kernel
theorem d12_ring_137 : decode c12_ring 137 = .ok (.iinc 2 1, 3) := by decide +kernel
theorem d12_ring_140 : decode c12_ring 140 = .ok (.goto (-54), 3) := by decide +kernel
theorem d12_ring_143 : decode c12_ring 143 = .ok (.bipush (-2), 2) := by decide +kernel
theorem d12_ring_145 : decode c12_ring 145 = .ok (.ireturn, 1) := by decide +kernel
abbrev c12_pence : ByteArray := prog_14_method_103_code
def y12_pence : MethodName := ⟨RX12, "pence", "(II)I"⟩
theorem d12_pence_0 : decode c12_pence 0 = .ok (.aload_n 0, 1) := by decide +kernel
theorem d12_pence_1 : decode c12_pence 1 = .ok (.iload_n 2, 1) := by decide +kernel
theorem d12_pence_2 : decode c12_pence 2 = .ok (.invokevirtual 299, 3) := by decide +kernel
theorem d12_pence_5 : decode c12_pence 5 = .ok (.ifCond .eq 15, 3) := by decide +kernel
theorem d12_pence_8 : decode c12_pence 8 = .ok (.iload_n 1, 1) := by decide +kernel
theorem d12_pence_9 : decode c12_pence 9 = .ok (.i2l, 1) := by decide +kernel
theorem d12_pence_10 : decode c12_pence 10 = .ok (.lconst 0, 1) := by decide +kernel
theorem d12_pence_11 : decode c12_pence 11 = .ok (.ldc2_w 432, 3) := by decide +kernel
theorem d12_pence_14 : decode c12_pence 14 = .ok (.invokestatic 127, 3) := by decide +kernel
theorem d12_pence_17 : decode c12_pence 17 = .ok (.ifCond .ne 5, 3) := by decide +kernel
theorem d12_pence_20 : decode c12_pence 20 = .ok (.iconst (-1), 1) := by decide +kernel
theorem d12_pence_21 : decode c12_pence 21 = .ok (.ireturn, 1) := by decide +kernel
theorem d12_pence_22 : decode c12_pence 22 = .ok (.iconst 0, 1) := by decide +kernel
theorem d12_pence_23 : decode c12_pence 23 = .ok (.istore_n 3, 1) := by decide +kernel
theorem d12_pence_24 : decode c12_pence 24 = .ok (.iconst 0, 1) := by decide +kernel
theorem d12_pence_25 : decode c12_pence 25 = .ok (.istore 4, 2) := by decide +kernel
theorem d12_pence_27 : decode c12_pence 27 = .ok (.iload 4, 2) := by decide +kernel
theorem d12_pence_29 : decode c12_pence 29 = .ok (.aload_n 0, 1) := by decide +kernel
theorem d12_pence_30 : decode c12_pence 30 = .ok (.getfield 39, 3) := by decide +kernel
theorem d12_pence_33 : decode c12_pence 33 = .ok (.iconst 3, 1) := by decide +kernel
theorem d12_pence_34 : decode c12_pence 34 = .ok (.iaload, 1) := by decide +kernel
theorem d12_pence_35 : decode c12_pence 35 = .ok (.if_icmp .ge 22, 3) := by decide +kernel
theorem d12_pence_38 : decode c12_pence 38 = .ok (.iload_n 3, 1) := by decide +kernel
theorem d12_pence_39 : decode c12_pence 39 = .ok (.aload_n 0, 1) := by decide +kernel
theorem d12_pence_40 : decode c12_pence 40 = .ok (.getfield 39, 3) := by decide +kernel
theorem d12_pence_43 : decode c12_pence 43 = .ok (.bipush 23, 2) := by decide +kernel
theorem d12_pence_45 : decode c12_pence 45 = .ok (.iload 4, 2) := by decide +kernel
theorem d12_pence_47 : decode c12_pence 47 = .ok (.iadd, 1) := by decide +kernel
theorem d12_pence_48 : decode c12_pence 48 = .ok (.iaload, 1) := by decide +kernel
theorem d12_pence_49 : decode c12_pence 49 = .ok (.iadd, 1) := by decide +kernel
theorem d12_pence_50 : decode c12_pence 50 = .ok (.istore_n 3, 1) := by decide +kernel
theorem d12_pence_51 : decode c12_pence 51 = .ok (.iinc 4 1, 3) := by decide +kernel
theorem d12_pence_54 : decode c12_pence 54 = .ok (.goto (-27), 3) := by decide +kernel
theorem d12_pence_57 : decode c12_pence 57 = .ok (.iload_n 3, 1) := by decide +kernel
theorem d12_pence_58 : decode c12_pence 58 = .ok (.ifCond .ne 5, 3) := by decide +kernel
theorem d12_pence_61 : decode c12_pence 61 = .ok (.iconst 0, 1) := by decide +kernel
theorem d12_pence_62 : decode c12_pence 62 = .ok (.ireturn, 1) := by decide +kernel
theorem d12_pence_63 : decode c12_pence 63 = .ok (.iload_n 1, 1) := by decide +kernel
theorem d12_pence_64 : decode c12_pence 64 = .ok (.aload_n 0, 1) := by decide +kernel
theorem d12_pence_65 : decode c12_pence 65 = .ok (.getfield 39, 3) := by decide +kernel
theorem d12_pence_68 : decode c12_pence 68 = .ok (.bipush 23, 2) := by decide +kernel
theorem d12_pence_70 : decode c12_pence 70 = .ok (.iload_n 2, 1) := by decide +kernel
theorem d12_pence_71 : decode c12_pence 71 = .ok (.iadd, 1) := by decide +kernel
theorem d12_pence_72 : decode c12_pence 72 = .ok (.iaload, 1) := by decide +kernel
theorem d12_pence_73 : decode c12_pence 73 = .ok (.imul, 1) := by decide +kernel
theorem d12_pence_74 : decode c12_pence 74 = .ok (.istore 4, 2) := by decide +kernel
theorem d12_pence_76 : decode c12_pence 76 = .ok (.iload_n 1, 1) := by decide +kernel
theorem d12_pence_77 : decode c12_pence 77 = .ok (.istore 5, 2) := by decide +kernel
theorem d12_pence_79 : decode c12_pence 79 = .ok (.iconst 0, 1) := by decide +kernel
theorem d12_pence_80 : decode c12_pence 80 = .ok (.istore 6, 2) := by decide +kernel
theorem d12_pence_82 : decode c12_pence 82 = .ok (.iconst 0, 1) := by decide +kernel
theorem d12_pence_83 : decode c12_pence 83 = .ok (.istore 7, 2) := by decide +kernel
theorem d12_pence_85 : decode c12_pence 85 = .ok (.iload 7, 2) := by decide +kernel
theorem d12_pence_87 : decode c12_pence 87 = .ok (.aload_n 0, 1) := by decide +kernel
theorem d12_pence_88 : decode c12_pence 88 = .ok (.getfield 39, 3) := by decide +kernel
theorem d12_pence_91 : decode c12_pence 91 = .ok (.iconst 3, 1) := by decide +kernel
theorem d12_pence_92 : decode c12_pence 92 = .ok (.iaload, 1) := by decide +kernel
theorem d12_pence_93 : decode c12_pence 93 = .ok (.if_icmp .ge 70, 3) := by decide +kernel
theorem d12_pence_96 : decode c12_pence 96 = .ok (.iload_n 1, 1) := by decide +kernel
theorem d12_pence_97 : decode c12_pence 97 = .ok (.aload_n 0, 1) := by decide +kernel
theorem d12_pence_98 : decode c12_pence 98 = .ok (.getfield 39, 3) := by decide +kernel
theorem d12_pence_101 : decode c12_pence 101 = .ok (.bipush 23, 2) := by decide +kernel
theorem d12_pence_103 : decode c12_pence 103 = .ok (.iload 7, 2) := by decide +kernel
theorem d12_pence_105 : decode c12_pence 105 = .ok (.iadd, 1) := by decide +kernel
theorem d12_pence_106 : decode c12_pence 106 = .ok (.iaload, 1) := by decide +kernel
theorem d12_pence_107 : decode c12_pence 107 = .ok (.imul, 1) := by decide +kernel
theorem d12_pence_108 : decode c12_pence 108 = .ok (.istore 8, 2) := by decide +kernel
theorem d12_pence_110 : decode c12_pence 110 = .ok (.iload 5, 2) := by decide +kernel
theorem d12_pence_112 : decode c12_pence 112 = .ok (.iload 8, 2) := by decide +kernel
theorem d12_pence_114 : decode c12_pence 114 = .ok (.iload_n 3, 1) := by decide +kernel
theorem d12_pence_115 : decode c12_pence 115 = .ok (.idiv, 1) := by decide +kernel
theorem d12_pence_116 : decode c12_pence 116 = .ok (.isub, 1) := by decide +kernel
theorem d12_pence_117 : decode c12_pence 117 = .ok (.istore 5, 2) := by decide +kernel
theorem d12_pence_119 : decode c12_pence 119 = .ok (.iload 6, 2) := by decide +kernel
theorem d12_pence_121 : decode c12_pence 121 = .ok (.iload 8, 2) := by decide +kernel
theorem d12_pence_123 : decode c12_pence 123 = .ok (.iload_n 3, 1) := by decide +kernel
theorem d12_pence_124 : decode c12_pence 124 = .ok (.irem, 1) := by decide +kernel
theorem d12_pence_125 : decode c12_pence 125 = .ok (.iload 4, 2) := by decide +kernel
theorem d12_pence_127 : decode c12_pence 127 = .ok (.iload_n 3, 1) := by decide +kernel
theorem d12_pence_128 : decode c12_pence 128 = .ok (.irem, 1) := by decide +kernel
theorem d12_pence_129 : decode c12_pence 129 = .ok (.if_icmp .gt 20, 3) := by decide +kernel
theorem d12_pence_132 : decode c12_pence 132 = .ok (.iload 8, 2) := by decide +kernel
theorem d12_pence_134 : decode c12_pence 134 = .ok (.iload_n 3, 1) := by decide +kernel
theorem d12_pence_135 : decode c12_pence 135 = .ok (.irem, 1) := by decide +kernel
theorem d12_pence_136 : decode c12_pence 136 = .ok (.iload 4, 2) := by decide +kernel
theorem d12_pence_138 : decode c12_pence 138 = .ok (.iload_n 3, 1) := by decide +kernel
theorem d12_pence_139 : decode c12_pence 139 = .ok (.irem, 1) := by decide +kernel
theorem d12_pence_140 : decode c12_pence 140 = .ok (.if_icmp .ne 13, 3) := by decide +kernel
theorem d12_pence_143 : decode c12_pence 143 = .ok (.iload 7, 2) := by decide +kernel
theorem d12_pence_145 : decode c12_pence 145 = .ok (.iload_n 2, 1) := by decide +kernel
theorem d12_pence_146 : decode c12_pence 146 = .ok (.if_icmp .ge 7, 3) := by decide +kernel
theorem d12_pence_149 : decode c12_pence 149 = .ok (.iconst 1, 1) := by decide +kernel
theorem d12_pence_150 : decode c12_pence 150 = .ok (.goto 4, 3) := by decide +kernel
theorem d12_pence_153 : decode c12_pence 153 = .ok (.iconst 0, 1) := by decide +kernel
theorem d12_pence_154 : decode c12_pence 154 = .ok (.iadd, 1) := by decide +kernel
theorem d12_pence_155 : decode c12_pence 155 = .ok (.istore 6, 2) := by decide +kernel
theorem d12_pence_157 : decode c12_pence 157 = .ok (.iinc 7 1, 3) := by decide +kernel
theorem d12_pence_160 : decode c12_pence 160 = .ok (.goto (-75), 3) := by decide +kernel
theorem d12_pence_163 : decode c12_pence 163 = .ok (.iload 4, 2) := by decide +kernel
theorem d12_pence_165 : decode c12_pence 165 = .ok (.iload_n 3, 1) := by decide +kernel
theorem d12_pence_166 : decode c12_pence 166 = .ok (.idiv, 1) := by decide +kernel
theorem d12_pence_167 : decode c12_pence 167 = .ok (.iload 6, 2) := by decide +kernel
theorem d12_pence_169 : decode c12_pence 169 = .ok (.iload 5, 2) := by decide +kernel
theorem d12_pence_171 : decode c12_pence 171 = .ok (.if_icmp .ge 7, 3) := by decide +kernel
theorem d12_pence_174 : decode c12_pence 174 = .ok (.iconst 1, 1) := by decide +kernel
theorem d12_pence_175 : decode c12_pence 175 = .ok (.goto 4, 3) := by decide +kernel
theorem d12_pence_178 : decode c12_pence 178 = .ok (.iconst 0, 1) := by decide +kernel
theorem d12_pence_179 : decode c12_pence 179 = .ok (.iadd, 1) := by decide +kernel
theorem d12_pence_180 : decode c12_pence 180 = .ok (.ireturn, 1) := by decide +kernel
abbrev c12_note : ByteArray := prog_14_method_104_code
def y12_note : MethodName := ⟨RX12, "note", "(III)I"⟩
theorem d12_note_0 : decode c12_note 0 = .ok (.iload_n 1, 1) := by decide +kernel
theorem d12_note_1 : decode c12_note 1 = .ok (.iconst (-1), 1) := by decide +kernel
theorem d12_note_2 : decode c12_note 2 = .ok (.if_icmp .ne 14, 3) := by decide +kernel
theorem d12_note_5 : decode c12_note 5 = .ok (.aload_n 0, 1) := by decide +kernel
theorem d12_note_6 : decode c12_note 6 = .ok (.getfield 39, 3) := by decide +kernel
theorem d12_note_9 : decode c12_note 9 = .ok (.sipush 128, 3) := by decide +kernel
theorem d12_note_12 : decode c12_note 12 = .ok (.iconst 0, 1) := by decide +kernel
theorem d12_note_13 : decode c12_note 13 = .ok (.iastore, 1) := by decide +kernel
theorem d12_note_14 : decode c12_note 14 = .ok (.iconst 0, 1) := by decide +kernel
theorem d12_note_15 : decode c12_note 15 = .ok (.ireturn, 1) := by decide +kernel
theorem d12_note_16 : decode c12_note 16 = .ok (.iload_n 1, 1) := by decide +kernel
theorem d12_note_17 : decode c12_note 17 = .ok (.i2l, 1) := by decide +kernel
theorem d12_note_18 : decode c12_note 18 = .ok (.lconst 0, 1) := by decide +kernel
theorem d12_note_19 : decode c12_note 19 = .ok (.ldc2_w 434, 3) := by decide +kernel
theorem d12_note_22 : decode c12_note 22 = .ok (.invokestatic 127, 3) := by decide +kernel
theorem d12_note_25 : decode c12_note 25 = .ok (.ifCond .eq 36, 3) := by decide +kernel
theorem d12_note_28 : decode c12_note 28 = .ok (.aload_n 0, 1) := by decide +kernel
theorem d12_note_29 : decode c12_note 29 = .ok (.iload_n 2, 1) := by decide +kernel
theorem d12_note_30 : decode c12_note 30 = .ok (.invokevirtual 299, 3) := by decide +kernel
theorem d12_note_33 : decode c12_note 33 = .ok (.ifCond .eq 28, 3) := by decide +kernel
theorem d12_note_36 : decode c12_note 36 = .ok (.iload_n 3, 1) := by decide +kernel
theorem d12_note_37 : decode c12_note 37 = .ok (.i2l, 1) := by decide +kernel
theorem d12_note_38 : decode c12_note 38 = .ok (.lconst 0, 1) := by decide +kernel
theorem d12_note_39 : decode c12_note 39 = .ok (.ldc2_w 364, 3) := by decide +kernel
theorem d12_note_42 : decode c12_note 42 = .ok (.invokestatic 127, 3) := by decide +kernel
theorem d12_note_45 : decode c12_note 45 = .ok (.ifCond .eq 16, 3) := by decide +kernel
theorem d12_note_48 : decode c12_note 48 = .ok (.aload_n 0, 1) := by decide +kernel
theorem d12_note_49 : decode c12_note 49 = .ok (.getfield 39, 3) := by decide +kernel
theorem d12_note_52 : decode c12_note 52 = .ok (.sipush 128, 3) := by decide +kernel
theorem d12_note_55 : decode c12_note 55 = .ok (.iaload, 1) := by decide +kernel
theorem d12_note_56 : decode c12_note 56 = .ok (.bipush 10, 2) := by decide +kernel
theorem d12_note_58 : decode c12_note 58 = .ok (.if_icmp .ne 6, 3) := by decide +kernel
theorem d12_note_61 : decode c12_note 61 = .ok (.bipush (-2), 2) := by decide +kernel
theorem d12_note_63 : decode c12_note 63 = .ok (.ireturn, 1) := by decide +kernel
theorem d12_note_64 : decode c12_note 64 = .ok (.bipush 98, 2) := by decide +kernel
theorem d12_note_66 : decode c12_note 66 = .ok (.iconst 3, 1) := by decide +kernel
theorem d12_note_67 : decode c12_note 67 = .ok (.aload_n 0, 1) := by decide +kernel
theorem d12_note_68 : decode c12_note 68 = .ok (.getfield 39, 3) := by decide +kernel
theorem d12_note_71 : decode c12_note 71 = .ok (.sipush 128, 3) := by decide +kernel
theorem d12_note_74 : decode c12_note 74 = .ok (.iaload, 1) := by decide +kernel
theorem d12_note_75 : decode c12_note 75 = .ok (.imul, 1) := by decide +kernel
theorem d12_note_76 : decode c12_note 76 = .ok (.iadd, 1) := by decide +kernel
theorem d12_note_77 : decode c12_note 77 = .ok (.istore 4, 2) := by decide +kernel
theorem d12_note_79 : decode c12_note 79 = .ok (.aload_n 0, 1) := by decide +kernel
theorem d12_note_80 : decode c12_note 80 = .ok (.getfield 39, 3) := by decide +kernel
theorem d12_note_83 : decode c12_note 83 = .ok (.iload 4, 2) := by decide +kernel
theorem d12_note_85 : decode c12_note 85 = .ok (.iload_n 1, 1) := by decide +kernel
theorem d12_note_86 : decode c12_note 86 = .ok (.iastore, 1) := by decide +kernel
theorem d12_note_87 : decode c12_note 87 = .ok (.aload_n 0, 1) := by decide +kernel
theorem d12_note_88 : decode c12_note 88 = .ok (.getfield 39, 3) := by decide +kernel
theorem d12_note_91 : decode c12_note 91 = .ok (.iload 4, 2) := by decide +kernel
theorem d12_note_93 : decode c12_note 93 = .ok (.iconst 1, 1) := by decide +kernel
theorem d12_note_94 : decode c12_note 94 = .ok (.iadd, 1) := by decide +kernel
theorem d12_note_95 : decode c12_note 95 = .ok (.iload_n 2, 1) := by decide +kernel
theorem d12_note_96 : decode c12_note 96 = .ok (.iastore, 1) := by decide +kernel
theorem d12_note_97 : decode c12_note 97 = .ok (.aload_n 0, 1) := by decide +kernel
theorem d12_note_98 : decode c12_note 98 = .ok (.getfield 39, 3) := by decide +kernel
theorem d12_note_101 : decode c12_note 101 = .ok (.iload 4, 2) := by decide +kernel
theorem d12_note_103 : decode c12_note 103 = .ok (.iconst 2, 1) := by decide +kernel
theorem d12_note_104 : decode c12_note 104 = .ok (.iadd, 1) := by decide +kernel
theorem d12_note_105 : decode c12_note 105 = .ok (.iload_n 3, 1) := by decide +kernel
theorem d12_note_106 : decode c12_note 106 = .ok (.iastore, 1) := by decide +kernel
theorem d12_note_107 : decode c12_note 107 = .ok (.aload_n 0, 1) := by decide +kernel
theorem d12_note_108 : decode c12_note 108 = .ok (.getfield 39, 3) := by decide +kernel
theorem d12_note_111 : decode c12_note 111 = .ok (.sipush 128, 3) := by decide +kernel
theorem d12_note_114 : decode c12_note 114 = .ok (.dup2, 1) := by decide +kernel
theorem d12_note_115 : decode c12_note 115 = .ok (.iaload, 1) := by decide +kernel
theorem d12_note_116 : decode c12_note 116 = .ok (.iconst 1, 1) := by decide +kernel
theorem d12_note_117 : decode c12_note 117 = .ok (.iadd, 1) := by decide +kernel
theorem d12_note_118 : decode c12_note 118 = .ok (.iastore, 1) := by decide +kernel
theorem d12_note_119 : decode c12_note 119 = .ok (.aload_n 0, 1) := by decide +kernel
theorem d12_note_120 : decode c12_note 120 = .ok (.getfield 39, 3) := by decide +kernel
theorem d12_note_123 : decode c12_note 123 = .ok (.sipush 128, 3) := by decide +kernel
theorem d12_note_126 : decode c12_note 126 = .ok (.iaload, 1) := by decide +kernel
theorem d12_note_127 : decode c12_note 127 = .ok (.ireturn, 1) := by decide +kernel
abbrev c12_areNotesSo : ByteArray := prog_14_method_105_code
def y12_areNotesSo : MethodName := ⟨RX12, "areNotesSo", "(I)Z"⟩
theorem d12_areNotesSo_0 : decode c12_areNotesSo 0 = .ok (.iconst 0, 1) := by decide +kernel
theorem d12_areNotesSo_1 : decode c12_areNotesSo 1 = .ok (.istore_n 2, 1) := by decide +kernel
theorem d12_areNotesSo_2 : decode c12_areNotesSo 2 = .ok (.iload_n 2, 1) := by decide +kernel
theorem d12_areNotesSo_3 : decode c12_areNotesSo 3 = .ok (.iconst 3, 1) := by decide +kernel
theorem d12_areNotesSo_4 : decode c12_areNotesSo 4 = .ok (.aload_n 0, 1) := by decide +kernel
theorem d12_areNotesSo_5 : decode c12_areNotesSo 5 = .ok (.getfield 39, 3) := by decide +kernel
theorem d12_areNotesSo_8 : decode c12_areNotesSo 8 = .ok (.sipush 128, 3) := by decide +kernel
theorem d12_areNotesSo_11 : decode c12_areNotesSo 11 = .ok (.iaload, 1) := by decide +kernel
theorem d12_areNotesSo_12 : decode c12_areNotesSo 12 = .ok (.imul, 1) := by decide +kernel
theorem d12_areNotesSo_13 : decode c12_areNotesSo 13 = .ok (.if_icmp .ge 57, 3) := by decide +kernel
theorem d12_areNotesSo_16 : decode c12_areNotesSo 16 = .ok (.aload_n 0, 1) := by decide +kernel
theorem d12_areNotesSo_17 : decode c12_areNotesSo 17 = .ok (.getfield 39, 3) := by decide +kernel
theorem d12_areNotesSo_20 : decode c12_areNotesSo 20 = .ok (.bipush 98, 2) := by decide +kernel
theorem d12_areNotesSo_22 : decode c12_areNotesSo 22 = .ok (.iload_n 2, 1) := by decide +kernel
theorem d12_areNotesSo_23 : decode c12_areNotesSo 23 = .ok (.iadd, 1) := by decide +kernel
theorem d12_areNotesSo_24 : decode c12_areNotesSo 24 = .ok (.iaload, 1) := by decide +kernel
theorem d12_areNotesSo_25 : decode c12_areNotesSo 25 = .ok (.iload_n 1, 1) := by decide +kernel
theorem d12_areNotesSo_26 : decode c12_areNotesSo 26 = .ok (.if_icmp .ne 38, 3) := by decide +kernel
theorem d12_areNotesSo_29 : decode c12_areNotesSo 29 = .ok (.aload_n 0, 1) := by decide +kernel
theorem d12_areNotesSo_30 : decode c12_areNotesSo 30 = .ok (.getfield 39, 3) := by decide +kernel
theorem d12_areNotesSo_33 : decode c12_areNotesSo 33 = .ok (.bipush 13, 2) := by decide +kernel
theorem d12_areNotesSo_35 : decode c12_areNotesSo 35 = .ok (.aload_n 0, 1) := by decide +kernel
theorem d12_areNotesSo_36 : decode c12_areNotesSo 36 = .ok (.getfield 39, 3) := by decide +kernel
theorem d12_areNotesSo_39 : decode c12_areNotesSo 39 = .ok (.bipush 98, 2) := by decide +kernel
theorem d12_areNotesSo_41 : decode c12_areNotesSo 41 = .ok (.iload_n 2, 1) := by decide +kernel
theorem d12_areNotesSo_42 : decode c12_areNotesSo 42 = .ok (.iadd, 1) := by decide +kernel
theorem d12_areNotesSo_43 : decode c12_areNotesSo 43 = .ok (.iconst 1, 1) := by decide +kernel
theorem d12_areNotesSo_44 : decode c12_areNotesSo 44 = .ok (.iadd, 1) := by decide +kernel
theorem d12_areNotesSo_45 : decode c12_areNotesSo 45 = .ok (.iaload, 1) := by decide +kernel
theorem d12_areNotesSo_46 : decode c12_areNotesSo 46 = .ok (.iadd, 1) := by decide +kernel
theorem d12_areNotesSo_47 : decode c12_areNotesSo 47 = .ok (.iaload, 1) := by decide +kernel
theorem d12_areNotesSo_48 : decode c12_areNotesSo 48 = .ok (.aload_n 0, 1) := by decide +kernel
theorem d12_areNotesSo_49 : decode c12_areNotesSo 49 = .ok (.getfield 39, 3) := by decide +kernel
theorem d12_areNotesSo_52 : decode c12_areNotesSo 52 = .ok (.bipush 98, 2) := by decide +kernel
theorem d12_areNotesSo_54 : decode c12_areNotesSo 54 = .ok (.iload_n 2, 1) := by decide +kernel
theorem d12_areNotesSo_55 : decode c12_areNotesSo 55 = .ok (.iadd, 1) := by decide +kernel
theorem d12_areNotesSo_56 : decode c12_areNotesSo 56 = .ok (.iconst 2, 1) := by decide +kernel
theorem d12_areNotesSo_57 : decode c12_areNotesSo 57 = .ok (.iadd, 1) := by decide +kernel
theorem d12_areNotesSo_58 : decode c12_areNotesSo 58 = .ok (.iaload, 1) := by decide +kernel
theorem d12_areNotesSo_59 : decode c12_areNotesSo 59 = .ok (.if_icmp .eq 5, 3) := by decide +kernel
theorem d12_areNotesSo_62 : decode c12_areNotesSo 62 = .ok (.iconst 0, 1) := by decide +kernel
theorem d12_areNotesSo_63 : decode c12_areNotesSo 63 = .ok (.ireturn, 1) := by decide +kernel
theorem d12_areNotesSo_64 : decode c12_areNotesSo 64 = .ok (.iinc 2 3, 3) := by decide +kernel
theorem d12_areNotesSo_67 : decode c12_areNotesSo 67 = .ok (.goto (-65), 3) := by decide +kernel
theorem d12_areNotesSo_70 : decode c12_areNotesSo 70 = .ok (.iconst 1, 1) := by decide +kernel
theorem d12_areNotesSo_71 : decode c12_areNotesSo 71 = .ok (.ireturn, 1) := by decide +kernel
abbrev c12_areAllSo : ByteArray := prog_14_method_106_code
def y12_areAllSo : MethodName := ⟨RX12, "areAllSo", "(II)Z"⟩
theorem d12_areAllSo_0 : decode c12_areAllSo 0 = .ok (.iconst 1, 1) := by decide +kernel
theorem d12_areAllSo_1 : decode c12_areAllSo 1 = .ok (.istore_n 3, 1) := by decide +kernel
theorem d12_areAllSo_2 : decode c12_areAllSo 2 = .ok (.iconst 0, 1) := by decide +kernel
theorem d12_areAllSo_3 : decode c12_areAllSo 3 = .ok (.istore 4, 2) := by decide +kernel
theorem d12_areAllSo_5 : decode c12_areAllSo 5 = .ok (.iload 4, 2) := by decide +kernel
theorem d12_areAllSo_7 : decode c12_areAllSo 7 = .ok (.bipush 60, 2) := by decide +kernel
theorem d12_areAllSo_9 : decode c12_areAllSo 9 = .ok (.if_icmp .gt 81, 3) := by decide +kernel
theorem d12_areAllSo_12 : decode c12_areAllSo 12 = .ok (.aload_n 0, 1) := by decide +kernel
theorem d12_areAllSo_13 : decode c12_areAllSo 13 = .ok (.invokevirtual 358, 3) := by decide +kernel
theorem d12_areAllSo_16 : decode c12_areAllSo 16 = .ok (.pop, 1) := by decide +kernel
theorem d12_areAllSo_17 : decode c12_areAllSo 17 = .ok (.iload_n 3, 1) := by decide +kernel
theorem d12_areAllSo_18 : decode c12_areAllSo 18 = .ok (.ifCond .eq 16, 3) := by decide +kernel
theorem d12_areAllSo_21 : decode c12_areAllSo 21 = .ok (.aload_n 0, 1) := by decide +kernel
theorem d12_areAllSo_22 : decode c12_areAllSo 22 = .ok (.iload 4, 2) := by decide +kernel
theorem d12_areAllSo_24 : decode c12_areAllSo 24 = .ok (.invokevirtual 436, 3) := by decide +kernel
theorem d12_areAllSo_27 : decode c12_areAllSo 27 = .ok (.ifCond .eq 7, 3) := by decide +kernel
theorem d12_areAllSo_30 : decode c12_areAllSo 30 = .ok (.iconst 1, 1) := by decide +kernel
theorem d12_areAllSo_31 : decode c12_areAllSo 31 = .ok (.goto 4, 3) := by decide +kernel
theorem d12_areAllSo_34 : decode c12_areAllSo 34 = .ok (.iconst 0, 1) := by decide +kernel
theorem d12_areAllSo_35 : decode c12_areAllSo 35 = .ok (.istore_n 3, 1) := by decide +kernel
theorem d12_areAllSo_36 : decode c12_areAllSo 36 = .ok (.iconst 0, 1) := by decide +kernel
theorem d12_areAllSo_37 : decode c12_areAllSo 37 = .ok (.istore 5, 2) := by decide +kernel
theorem d12_areAllSo_39 : decode c12_areAllSo 39 = .ok (.iload 5, 2) := by decide +kernel
theorem d12_areAllSo_41 : decode c12_areAllSo 41 = .ok (.aload_n 0, 1) := by decide +kernel
theorem d12_areAllSo_42 : decode c12_areAllSo 42 = .ok (.getfield 39, 3) := by decide +kernel
theorem d12_areAllSo_45 : decode c12_areAllSo 45 = .ok (.iconst 3, 1) := by decide +kernel
theorem d12_areAllSo_46 : decode c12_areAllSo 46 = .ok (.iaload, 1) := by decide +kernel
theorem d12_areAllSo_47 : decode c12_areAllSo 47 = .ok (.if_icmp .ge 37, 3) := by decide +kernel
theorem d12_areAllSo_50 : decode c12_areAllSo 50 = .ok (.iload 4, 2) := by decide +kernel
theorem d12_areAllSo_52 : decode c12_areAllSo 52 = .ok (.iload_n 2, 1) := by decide +kernel
theorem d12_areAllSo_53 : decode c12_areAllSo 53 = .ok (.if_icmp .ne 31, 3) := by decide +kernel
theorem d12_areAllSo_56 : decode c12_areAllSo 56 = .ok (.aload_n 0, 1) := by decide +kernel
theorem d12_areAllSo_57 : decode c12_areAllSo 57 = .ok (.getfield 74, 3) := by decide +kernel
theorem d12_areAllSo_60 : decode c12_areAllSo 60 = .ok (.bipush 10, 2) := by decide +kernel
theorem d12_areAllSo_62 : decode c12_areAllSo 62 = .ok (.iload_n 1, 1) := by decide +kernel
theorem d12_areAllSo_63 : decode c12_areAllSo 63 = .ok (.imul, 1) := by decide +kernel
theorem d12_areAllSo_64 : decode c12_areAllSo 64 = .ok (.iload 5, 2) := by decide +kernel
theorem d12_areAllSo_66 : decode c12_areAllSo 66 = .ok (.iadd, 1) := by decide +kernel
theorem d12_areAllSo_67 : decode c12_areAllSo 67 = .ok (.aload_n 0, 1) := by decide +kernel
theorem d12_areAllSo_68 : decode c12_areAllSo 68 = .ok (.getfield 39, 3) := by decide +kernel
theorem d12_areAllSo_71 : decode c12_areAllSo 71 = .ok (.bipush 13, 2) := by decide +kernel
theorem d12_areAllSo_73 : decode c12_areAllSo 73 = .ok (.iload 5, 2) := by decide +kernel
theorem d12_areAllSo_75 : decode c12_areAllSo 75 = .ok (.iadd, 1) := by decide +kernel
theorem d12_areAllSo_76 : decode c12_areAllSo 76 = .ok (.iaload, 1) := by decide +kernel
theorem d12_areAllSo_77 : decode c12_areAllSo 77 = .ok (.iastore, 1) := by decide +kernel
theorem d12_areAllSo_78 : decode c12_areAllSo 78 = .ok (.iinc 5 1, 3) := by decide +kernel
theorem d12_areAllSo_81 : decode c12_areAllSo 81 = .ok (.goto (-42), 3) := by decide +kernel
theorem d12_areAllSo_84 : decode c12_areAllSo 84 = .ok (.iinc 4 1, 3) := by decide +kernel
theorem d12_areAllSo_87 : decode c12_areAllSo 87 = .ok (.goto (-82), 3) := by decide +kernel
theorem d12_areAllSo_90 : decode c12_areAllSo 90 = .ok (.iload_n 3, 1) := by decide +kernel
theorem d12_areAllSo_91 : decode c12_areAllSo 91 = .ok (.ireturn, 1) := by decide +kernel
abbrev c12_fillsFits : ByteArray := prog_14_method_107_code
def y12_fillsFits : MethodName := ⟨RX12, "fillsFits", "(I)V"⟩
theorem d12_fillsFits_0 : decode c12_fillsFits 0 = .ok (.aload_n 0, 1) := by decide +kernel
theorem d12_fillsFits_1 : decode c12_fillsFits 1 = .ok (.getfield 42, 3) := by decide +kernel
theorem d12_fillsFits_4 : decode c12_fillsFits 4 = .ok (.istore_n 2, 1) := by decide +kernel
theorem d12_fillsFits_5 : decode c12_fillsFits 5 = .ok (.aload_n 0, 1) := by decide +kernel
theorem d12_fillsFits_6 : decode c12_fillsFits 6 = .ok (.invokevirtual 372, 3) := by decide +kernel
theorem d12_fillsFits_9 : decode c12_fillsFits 9 = .ok (.iconst 0, 1) := by decide +kernel
theorem d12_fillsFits_10 : decode c12_fillsFits 10 = .ok (.istore_n 3, 1) := by decide +kernel
theorem d12_fillsFits_11 : decode c12_fillsFits 11 = .ok (.iload_n 3, 1) := by decide +kernel
theorem d12_fillsFits_12 : decode c12_fillsFits 12 = .ok (.aload_n 0, 1) := by decide +kernel
theorem d12_fillsFits_13 : decode c12_fillsFits 13 = .ok (.getfield 266, 3) := by decide +kernel
theorem d12_fillsFits_16 : decode c12_fillsFits 16 = .ok (.if_icmp .gt 32, 3) := by decide +kernel
theorem d12_fillsFits_19 : decode c12_fillsFits 19 = .ok (.aload_n 0, 1) := by decide +kernel
theorem d12_fillsFits_20 : decode c12_fillsFits 20 = .ok (.iload_n 3, 1) := by decide +kernel
theorem d12_fillsFits_21 : decode c12_fillsFits 21 = .ok (.iconst 1, 1) := by decide +kernel
theorem d12_fillsFits_22 : decode c12_fillsFits 22 = .ok (.isub, 1) := by decide +kernel
theorem d12_fillsFits_23 : decode c12_fillsFits 23 = .ok (.putfield 42, 3) := by decide +kernel
theorem d12_fillsFits_26 : decode c12_fillsFits 26 = .ok (.aload_n 0, 1) := by decide +kernel
theorem d12_fillsFits_27 : decode c12_fillsFits 27 = .ok (.invokevirtual 272, 3) := by decide +kernel
theorem d12_fillsFits_30 : decode c12_fillsFits 30 = .ok (.aload_n 0, 1) := by decide +kernel
theorem d12_fillsFits_31 : decode c12_fillsFits 31 = .ok (.getfield 70, 3) := by decide +kernel
theorem d12_fillsFits_34 : decode c12_fillsFits 34 = .ok (.iload_n 3, 1) := by decide +kernel
theorem d12_fillsFits_35 : decode c12_fillsFits 35 = .ok (.aload_n 0, 1) := by decide +kernel
theorem d12_fillsFits_36 : decode c12_fillsFits 36 = .ok (.iload_n 3, 1) := by decide +kernel
theorem d12_fillsFits_37 : decode c12_fillsFits 37 = .ok (.iload_n 1, 1) := by decide +kernel
theorem d12_fillsFits_38 : decode c12_fillsFits 38 = .ok (.invokevirtual 439, 3) := by decide +kernel
theorem d12_fillsFits_41 : decode c12_fillsFits 41 = .ok (.bastore, 1) := by decide +kernel
theorem d12_fillsFits_42 : decode c12_fillsFits 42 = .ok (.iinc 3 1, 3) := by decide +kernel
theorem d12_fillsFits_45 : decode c12_fillsFits 45 = .ok (.goto (-34), 3) := by decide +kernel
theorem d12_fillsFits_48 : decode c12_fillsFits 48 = .ok (.aload_n 0, 1) := by decide +kernel
theorem d12_fillsFits_49 : decode c12_fillsFits 49 = .ok (.iload_n 2, 1) := by decide +kernel
theorem d12_fillsFits_50 : decode c12_fillsFits 50 = .ok (.putfield 42, 3) := by decide +kernel
theorem d12_fillsFits_53 : decode c12_fillsFits 53 = .ok (.aload_n 0, 1) := by decide +kernel
theorem d12_fillsFits_54 : decode c12_fillsFits 54 = .ok (.invokevirtual 378, 3) := by decide +kernel
theorem d12_fillsFits_57 : decode c12_fillsFits 57 = .ok (.return_, 1) := by decide +kernel
abbrev c12_ruled : ByteArray := prog_14_method_108_code
def y12_ruled : MethodName := ⟨RX12, "ruled", "(I)I"⟩
theorem d12_ruled_0 : decode c12_ruled 0 = .ok (.aload_n 0, 1) := by decide +kernel
theorem d12_ruled_1 : decode c12_ruled 1 = .ok (.invokevirtual 293, 3) := by decide +kernel
theorem d12_ruled_4 : decode c12_ruled 4 = .ok (.ifCond .eq 13, 3) := by decide +kernel
theorem d12_ruled_7 : decode c12_ruled 7 = .ok (.iload_n 1, 1) := by decide +kernel
theorem d12_ruled_8 : decode c12_ruled 8 = .ok (.i2l, 1) := by decide +kernel
theorem d12_ruled_9 : decode c12_ruled 9 = .ok (.lconst 0, 1) := by decide +kernel
theorem d12_ruled_10 : decode c12_ruled 10 = .ok (.lconst 1, 1) := by decide +kernel
theorem d12_ruled_11 : decode c12_ruled 11 = .ok (.invokestatic 127, 3) := by decide +kernel
theorem d12_ruled_14 : decode c12_ruled 14 = .ok (.ifCond .ne 6, 3) := by decide +kernel
theorem d12_ruled_17 : decode c12_ruled 17 = .ok (.bipush (-3), 2) := by decide +kernel
theorem d12_ruled_19 : decode c12_ruled 19 = .ok (.ireturn, 1) := by decide +kernel
theorem d12_ruled_20 : decode c12_ruled 20 = .ok (.aload_n 0, 1) := by decide +kernel
theorem d12_ruled_21 : decode c12_ruled 21 = .ok (.iconst 0, 1) := by decide +kernel
theorem d12_ruled_22 : decode c12_ruled 22 = .ok (.invokevirtual 442, 3) := by decide +kernel
theorem d12_ruled_25 : decode c12_ruled 25 = .ok (.iconst 0, 1) := by decide +kernel
theorem d12_ruled_26 : decode c12_ruled 26 = .ok (.istore_n 2, 1) := by decide +kernel
theorem d12_ruled_27 : decode c12_ruled 27 = .ok (.bipush (-2), 2) := by decide +kernel
theorem d12_ruled_29 : decode c12_ruled 29 = .ok (.istore_n 3, 1) := by decide +kernel
theorem d12_ruled_30 : decode c12_ruled 30 = .ok (.aload_n 0, 1) := by decide +kernel
theorem d12_ruled_31 : decode c12_ruled 31 = .ok (.getfield 266, 3) := by decide +kernel
theorem d12_ruled_34 : decode c12_ruled 34 = .ok (.istore 4, 2) := by decide +kernel
theorem d12_ruled_36 : decode c12_ruled 36 = .ok (.iload 4, 2) := by decide +kernel
theorem d12_ruled_38 : decode c12_ruled 38 = .ok (.ifCond .lt 30, 3) := by decide +kernel
theorem d12_ruled_41 : decode c12_ruled 41 = .ok (.aload_n 0, 1) := by decide +kernel
theorem d12_ruled_42 : decode c12_ruled 42 = .ok (.getfield 70, 3) := by decide +kernel
theorem d12_ruled_45 : decode c12_ruled 45 = .ok (.iload 4, 2) := by decide +kernel
theorem d12_ruled_47 : decode c12_ruled 47 = .ok (.baload, 1) := by decide +kernel
theorem d12_ruled_48 : decode c12_ruled 48 = .ok (.ifCond .ne 6, 3) := by decide +kernel
theorem d12_ruled_51 : decode c12_ruled 51 = .ok (.goto 11, 3) := by decide +kernel
theorem d12_ruled_54 : decode c12_ruled 54 = .ok (.iload 4, 2) := by decide +kernel
theorem d12_ruled_56 : decode c12_ruled 56 = .ok (.iconst 1, 1) := by decide +kernel
theorem d12_ruled_57 : decode c12_ruled 57 = .ok (.isub, 1) := by decide +kernel
theorem d12_ruled_58 : decode c12_ruled 58 = .ok (.istore_n 3, 1) := by decide +kernel
theorem d12_ruled_59 : decode c12_ruled 59 = .ok (.iinc 2 1, 3) := by decide +kernel
theorem d12_ruled_62 : decode c12_ruled 62 = .ok (.iinc 4 (-1), 3) := by decide +kernel
theorem d12_ruled_65 : decode c12_ruled 65 = .ok (.goto (-29), 3) := by decide +kernel
theorem d12_ruled_68 : decode c12_ruled 68 = .ok (.iload_n 1, 1) := by decide +kernel
theorem d12_ruled_69 : decode c12_ruled 69 = .ok (.ifCond .ne 7, 3) := by decide +kernel
theorem d12_ruled_72 : decode c12_ruled 72 = .ok (.iload_n 2, 1) := by decide +kernel
theorem d12_ruled_73 : decode c12_ruled 73 = .ok (.goto 4, 3) := by decide +kernel
theorem d12_ruled_76 : decode c12_ruled 76 = .ok (.iload_n 3, 1) := by decide +kernel
theorem d12_ruled_77 : decode c12_ruled 77 = .ok (.ireturn, 1) := by decide +kernel
abbrev c12_alikeAt : ByteArray := prog_14_method_109_code
def y12_alikeAt : MethodName := ⟨RX12, "alikeAt", "(I)I"⟩
theorem d12_alikeAt_0 : decode c12_alikeAt 0 = .ok (.iconst 0, 1) := by decide +kernel
theorem d12_alikeAt_1 : decode c12_alikeAt 1 = .ok (.istore_n 2, 1) := by decide +kernel
theorem d12_alikeAt_2 : decode c12_alikeAt 2 = .ok (.iconst 0, 1) := by decide +kernel
theorem d12_alikeAt_3 : decode c12_alikeAt 3 = .ok (.istore_n 3, 1) := by decide +kernel
theorem d12_alikeAt_4 : decode c12_alikeAt 4 = .ok (.iload_n 3, 1) := by decide +kernel
theorem d12_alikeAt_5 : decode c12_alikeAt 5 = .ok (.aload_n 0, 1) := by decide +kernel
theorem d12_alikeAt_6 : decode c12_alikeAt 6 = .ok (.getfield 266, 3) := by decide +kernel
theorem d12_alikeAt_9 : decode c12_alikeAt 9 = .ok (.if_icmp .gt 98, 3) := by decide +kernel
theorem d12_alikeAt_12 : decode c12_alikeAt 12 = .ok (.iconst 0, 1) := by decide +kernel
theorem d12_alikeAt_13 : decode c12_alikeAt 13 = .ok (.istore 4, 2) := by decide +kernel
theorem d12_alikeAt_15 : decode c12_alikeAt 15 = .ok (.iconst 0, 1) := by decide +kernel
theorem d12_alikeAt_16 : decode c12_alikeAt 16 = .ok (.istore 5, 2) := by decide +kernel
theorem d12_alikeAt_18 : decode c12_alikeAt 18 = .ok (.iload 5, 2) := by decide +kernel
theorem d12_alikeAt_20 : decode c12_alikeAt 20 = .ok (.aload_n 0, 1) := by decide +kernel
theorem d12_alikeAt_21 : decode c12_alikeAt 21 = .ok (.getfield 266, 3) := by decide +kernel
theorem d12_alikeAt_24 : decode c12_alikeAt 24 = .ok (.if_icmp .gt 64, 3) := by decide +kernel
theorem d12_alikeAt_27 : decode c12_alikeAt 27 = .ok (.aload_n 0, 1) := by decide +kernel
theorem d12_alikeAt_28 : decode c12_alikeAt 28 = .ok (.getfield 70, 3) := by decide +kernel
theorem d12_alikeAt_31 : decode c12_alikeAt 31 = .ok (.iload_n 3, 1) := by decide +kernel
theorem d12_alikeAt_32 : decode c12_alikeAt 32 = .ok (.baload, 1) := by decide +kernel
theorem d12_alikeAt_33 : decode c12_alikeAt 33 = .ok (.ifCond .eq 55, 3) := by decide +kernel
theorem d12_alikeAt_36 : decode c12_alikeAt 36 = .ok (.iload 4, 2) := by decide +kernel
theorem d12_alikeAt_38 : decode c12_alikeAt 38 = .ok (.aload_n 0, 1) := by decide +kernel
theorem d12_alikeAt_39 : decode c12_alikeAt 39 = .ok (.getfield 70, 3) := by decide +kernel
theorem d12_alikeAt_42 : decode c12_alikeAt 42 = .ok (.iload 5, 2) := by decide +kernel
theorem d12_alikeAt_44 : decode c12_alikeAt 44 = .ok (.baload, 1) := by decide +kernel
theorem d12_alikeAt_45 : decode c12_alikeAt 45 = .ok (.ifCond .eq 33, 3) := by decide +kernel
theorem d12_alikeAt_48 : decode c12_alikeAt 48 = .ok (.aload_n 0, 1) := by decide +kernel
theorem d12_alikeAt_49 : decode c12_alikeAt 49 = .ok (.getfield 74, 3) := by decide +kernel
theorem d12_alikeAt_52 : decode c12_alikeAt 52 = .ok (.bipush 10, 2) := by decide +kernel
theorem d12_alikeAt_54 : decode c12_alikeAt 54 = .ok (.iload_n 3, 1) := by decide +kernel
theorem d12_alikeAt_55 : decode c12_alikeAt 55 = .ok (.imul, 1) := by decide +kernel
theorem d12_alikeAt_56 : decode c12_alikeAt 56 = .ok (.iload_n 1, 1) := by decide +kernel
theorem d12_alikeAt_57 : decode c12_alikeAt 57 = .ok (.iadd, 1) := by decide +kernel
theorem d12_alikeAt_58 : decode c12_alikeAt 58 = .ok (.iaload, 1) := by decide +kernel
theorem d12_alikeAt_59 : decode c12_alikeAt 59 = .ok (.aload_n 0, 1) := by decide +kernel
theorem d12_alikeAt_60 : decode c12_alikeAt 60 = .ok (.getfield 74, 3) := by decide +kernel
theorem d12_alikeAt_63 : decode c12_alikeAt 63 = .ok (.bipush 10, 2) := by decide +kernel
theorem d12_alikeAt_65 : decode c12_alikeAt 65 = .ok (.iload 5, 2) := by decide +kernel
theorem d12_alikeAt_67 : decode c12_alikeAt 67 = .ok (.imul, 1) := by decide +kernel
theorem d12_alikeAt_68 : decode c12_alikeAt 68 = .ok (.iload_n 1, 1) := by decide +kernel
theorem d12_alikeAt_69 : decode c12_alikeAt 69 = .ok (.iadd, 1) := by decide +kernel
theorem d12_alikeAt_70 : decode c12_alikeAt 70 = .ok (.iaload, 1) := by decide +kernel
theorem d12_alikeAt_71 : decode c12_alikeAt 71 = .ok (.if_icmp .ne 7, 3) := by decide +kernel
theorem d12_alikeAt_74 : decode c12_alikeAt 74 = .ok (.iconst 1, 1) := by decide +kernel
theorem d12_alikeAt_75 : decode c12_alikeAt 75 = .ok (.goto 4, 3) := by decide +kernel
theorem d12_alikeAt_78 : decode c12_alikeAt 78 = .ok (.iconst 0, 1) := by decide +kernel
theorem d12_alikeAt_79 : decode c12_alikeAt 79 = .ok (.iadd, 1) := by decide +kernel
theorem d12_alikeAt_80 : decode c12_alikeAt 80 = .ok (.istore 4, 2) := by decide +kernel
theorem d12_alikeAt_82 : decode c12_alikeAt 82 = .ok (.iinc 5 1, 3) := by decide +kernel
theorem d12_alikeAt_85 : decode c12_alikeAt 85 = .ok (.goto (-67), 3) := by decide +kernel
theorem d12_alikeAt_88 : decode c12_alikeAt 88 = .ok (.iload 4, 2) := by decide +kernel
theorem d12_alikeAt_90 : decode c12_alikeAt 90 = .ok (.iload_n 2, 1) := by decide +kernel
theorem d12_alikeAt_91 : decode c12_alikeAt 91 = .ok (.if_icmp .le 8, 3) := by decide +kernel
theorem d12_alikeAt_94 : decode c12_alikeAt 94 = .ok (.iload 4, 2) := by decide +kernel
theorem d12_alikeAt_96 : decode c12_alikeAt 96 = .ok (.goto 4, 3) := by decide +kernel
theorem d12_alikeAt_99 : decode c12_alikeAt 99 = .ok (.iload_n 2, 1) := by decide +kernel
theorem d12_alikeAt_100 : decode c12_alikeAt 100 = .ok (.istore_n 2, 1) := by decide +kernel
theorem d12_alikeAt_101 : decode c12_alikeAt 101 = .ok (.iinc 3 1, 3) := by decide +kernel
theorem d12_alikeAt_104 : decode c12_alikeAt 104 = .ok (.goto (-100), 3) := by decide +kernel
theorem d12_alikeAt_107 : decode c12_alikeAt 107 = .ok (.iload_n 2, 1) := by decide +kernel
theorem d12_alikeAt_108 : decode c12_alikeAt 108 = .ok (.ireturn, 1) := by decide +kernel
abbrev c12_look : ByteArray := prog_14_method_110_code
def y12_look : MethodName := ⟨RX12, "look", "(II)I"⟩
theorem d12_look_0 : decode c12_look 0 = .ok (.aload_n 0, 1) := by decide +kernel
theorem d12_look_1 : decode c12_look 1 = .ok (.invokevirtual 293, 3) := by decide +kernel
theorem d12_look_4 : decode c12_look 4 = .ok (.ifCond .eq 25, 3) := by decide +kernel
theorem d12_look_7 : decode c12_look 7 = .ok (.iload_n 1, 1) := by decide +kernel
theorem d12_look_8 : decode c12_look 8 = .ok (.i2l, 1) := by decide +kernel
theorem d12_look_9 : decode c12_look 9 = .ok (.lconst 0, 1) := by decide +kernel
theorem d12_look_10 : decode c12_look 10 = .ok (.ldc2_w 434, 3) := by decide +kernel
theorem d12_look_13 : decode c12_look 13 = .ok (.invokestatic 127, 3) := by decide +kernel
theorem d12_look_16 : decode c12_look 16 = .ok (.ifCond .eq 13, 3) := by decide +kernel
theorem d12_look_19 : decode c12_look 19 = .ok (.iload_n 2, 1) := by decide +kernel
theorem d12_look_20 : decode c12_look 20 = .ok (.i2l, 1) := by decide +kernel
theorem d12_look_21 : decode c12_look 21 = .ok (.lconst 0, 1) := by decide +kernel
theorem d12_look_22 : decode c12_look 22 = .ok (.lconst 1, 1) := by decide +kernel
theorem d12_look_23 : decode c12_look 23 = .ok (.invokestatic 127, 3) := by decide +kernel
theorem d12_look_26 : decode c12_look 26 = .ok (.ifCond .ne 5, 3) := by decide +kernel
theorem d12_look_29 : decode c12_look 29 = .ok (.iconst (-1), 1) := by decide +kernel
theorem d12_look_30 : decode c12_look 30 = .ok (.ireturn, 1) := by decide +kernel
theorem d12_look_31 : decode c12_look 31 = .ok (.aload_n 0, 1) := by decide +kernel
theorem d12_look_32 : decode c12_look 32 = .ok (.iload_n 1, 1) := by decide +kernel
theorem d12_look_33 : decode c12_look 33 = .ok (.invokevirtual 442, 3) := by decide +kernel
theorem d12_look_36 : decode c12_look 36 = .ok (.bipush (-2), 2) := by decide +kernel
theorem d12_look_38 : decode c12_look 38 = .ok (.istore_n 3, 1) := by decide +kernel
theorem d12_look_39 : decode c12_look 39 = .ok (.bipush (-2), 2) := by decide +kernel
theorem d12_look_41 : decode c12_look 41 = .ok (.istore 4, 2) := by decide +kernel
theorem d12_look_43 : decode c12_look 43 = .ok (.iconst 0, 1) := by decide +kernel
theorem d12_look_44 : decode c12_look 44 = .ok (.istore 5, 2) := by decide +kernel
theorem d12_look_46 : decode c12_look 46 = .ok (.iload 5, 2) := by decide +kernel
theorem d12_look_48 : decode c12_look 48 = .ok (.aload_n 0, 1) := by decide +kernel
theorem d12_look_49 : decode c12_look 49 = .ok (.getfield 39, 3) := by decide +kernel
theorem d12_look_52 : decode c12_look 52 = .ok (.iconst 3, 1) := by decide +kernel
theorem d12_look_53 : decode c12_look 53 = .ok (.iaload, 1) := by decide +kernel
theorem d12_look_54 : decode c12_look 54 = .ok (.if_icmp .ge 43, 3) := by decide +kernel
theorem d12_look_57 : decode c12_look 57 = .ok (.aload_n 0, 1) := by decide +kernel
theorem d12_look_58 : decode c12_look 58 = .ok (.iload 5, 2) := by decide +kernel
theorem d12_look_60 : decode c12_look 60 = .ok (.invokevirtual 445, 3) := by decide +kernel
theorem d12_look_63 : decode c12_look 63 = .ok (.istore 6, 2) := by decide +kernel
theorem d12_look_65 : decode c12_look 65 = .ok (.iload 6, 2) := by decide +kernel
theorem d12_look_67 : decode c12_look 67 = .ok (.ifCond .eq 24, 3) := by decide +kernel
theorem d12_look_70 : decode c12_look 70 = .ok (.iload_n 3, 1) := by decide +kernel
theorem d12_look_71 : decode c12_look 71 = .ok (.ifCond .lt 13, 3) := by decide +kernel
theorem d12_look_74 : decode c12_look 74 = .ok (.iload 6, 2) := by decide +kernel
theorem d12_look_76 : decode c12_look 76 = .ok (.iload 4, 2) := by decide +kernel
theorem d12_look_78 : decode c12_look 78 = .ok (.if_icmp .lt 6, 3) := by decide +kernel
theorem d12_look_81 : decode c12_look 81 = .ok (.goto 10, 3) := by decide +kernel
theorem d12_look_84 : decode c12_look 84 = .ok (.iload 5, 2) := by decide +kernel
theorem d12_look_86 : decode c12_look 86 = .ok (.istore_n 3, 1) := by decide +kernel
theorem d12_look_87 : decode c12_look 87 = .ok (.iload 6, 2) := by decide +kernel
theorem d12_look_89 : decode c12_look 89 = .ok (.istore 4, 2) := by decide +kernel
theorem d12_look_91 : decode c12_look 91 = .ok (.iinc 5 1, 3) := by decide +kernel
theorem d12_look_94 : decode c12_look 94 = .ok (.goto (-48), 3) := by decide +kernel
theorem d12_look_97 : decode c12_look 97 = .ok (.iload_n 2, 1) := by decide +kernel
theorem d12_look_98 : decode c12_look 98 = .ok (.ifCond .ne 7, 3) := by decide +kernel
theorem d12_look_101 : decode c12_look 101 = .ok (.iload_n 3, 1) := by decide +kernel
theorem d12_look_102 : decode c12_look 102 = .ok (.goto 5, 3) := by decide +kernel
theorem d12_look_105 : decode c12_look 105 = .ok (.iload 4, 2) := by decide +kernel
theorem d12_look_107 : decode c12_look 107 = .ok (.ireturn, 1) := by decide +kernel
abbrev c12_putAs : ByteArray := prog_14_method_111_code
def y12_putAs : MethodName := ⟨RX12, "putAs", "(I)I"⟩
theorem d12_putAs_0 : decode c12_putAs 0 = .ok (.aload_n 0, 1) := by decide +kernel
theorem d12_putAs_1 : decode c12_putAs 1 = .ok (.iload_n 1, 1) := by decide +kernel
theorem d12_putAs_2 : decode c12_putAs 2 = .ok (.invokevirtual 299, 3) := by decide +kernel
theorem d12_putAs_5 : decode c12_putAs 5 = .ok (.ifCond .ne 5, 3) := by decide +kernel
theorem d12_putAs_8 : decode c12_putAs 8 = .ok (.iconst (-1), 1) := by decide +kernel
theorem d12_putAs_9 : decode c12_putAs 9 = .ok (.ireturn, 1) := by decide +kernel
theorem d12_putAs_10 : decode c12_putAs 10 = .ok (.aload_n 0, 1) := by decide +kernel
theorem d12_putAs_11 : decode c12_putAs 11 = .ok (.getfield 39, 3) := by decide +kernel
theorem d12_putAs_14 : decode c12_putAs 14 = .ok (.bipush 53, 2) := by decide +kernel
theorem d12_putAs_16 : decode c12_putAs 16 = .ok (.iload_n 1, 1) := by decide +kernel
theorem d12_putAs_17 : decode c12_putAs 17 = .ok (.iadd, 1) := by decide +kernel
theorem d12_putAs_18 : decode c12_putAs 18 = .ok (.iaload, 1) := by decide +kernel
theorem d12_putAs_19 : decode c12_putAs 19 = .ok (.istore_n 2, 1) := by decide +kernel
theorem d12_putAs_20 : decode c12_putAs 20 = .ok (.iconst 0, 1) := by decide +kernel
theorem d12_putAs_21 : decode c12_putAs 21 = .ok (.istore_n 3, 1) := by decide +kernel
theorem d12_putAs_22 : decode c12_putAs 22 = .ok (.aload_n 0, 1) := by decide +kernel
theorem d12_putAs_23 : decode c12_putAs 23 = .ok (.invokevirtual 372, 3) := by decide +kernel
theorem d12_putAs_26 : decode c12_putAs 26 = .ok (.iconst 0, 1) := by decide +kernel
theorem d12_putAs_27 : decode c12_putAs 27 = .ok (.istore 4, 2) := by decide +kernel
theorem d12_putAs_29 : decode c12_putAs 29 = .ok (.iload 4, 2) := by decide +kernel
theorem d12_putAs_31 : decode c12_putAs 31 = .ok (.bipush 8, 2) := by decide +kernel
theorem d12_putAs_33 : decode c12_putAs 33 = .ok (.if_icmp .ge 40, 3) := by decide +kernel
theorem d12_putAs_36 : decode c12_putAs 36 = .ok (.aload_n 0, 1) := by decide +kernel
theorem d12_putAs_37 : decode c12_putAs 37 = .ok (.getfield 39, 3) := by decide +kernel
theorem d12_putAs_40 : decode c12_putAs 40 = .ok (.bipush 53, 2) := by decide +kernel
theorem d12_putAs_42 : decode c12_putAs 42 = .ok (.iload_n 1, 1) := by decide +kernel
theorem d12_putAs_43 : decode c12_putAs 43 = .ok (.iadd, 1) := by decide +kernel
theorem d12_putAs_44 : decode c12_putAs 44 = .ok (.iload 4, 2) := by decide +kernel
theorem d12_putAs_46 : decode c12_putAs 46 = .ok (.iastore, 1) := by decide +kernel
theorem d12_putAs_47 : decode c12_putAs 47 = .ok (.aload_n 0, 1) := by decide +kernel
theorem d12_putAs_48 : decode c12_putAs 48 = .ok (.invokevirtual 272, 3) := by decide +kernel
theorem d12_putAs_51 : decode c12_putAs 51 = .ok (.aload_n 0, 1) := by decide +kernel
theorem d12_putAs_52 : decode c12_putAs 52 = .ok (.iconst 0, 1) := by decide +kernel
theorem d12_putAs_53 : decode c12_putAs 53 = .ok (.iconst (-1), 1) := by decide +kernel
theorem d12_putAs_54 : decode c12_putAs 54 = .ok (.invokevirtual 439, 3) := by decide +kernel
theorem d12_putAs_57 : decode c12_putAs 57 = .ok (.ifCond .eq 10, 3) := by decide +kernel
theorem d12_putAs_60 : decode c12_putAs 60 = .ok (.iload_n 3, 1) := by decide +kernel
theorem d12_putAs_61 : decode c12_putAs 61 = .ok (.iconst 1, 1) := by decide +kernel
theorem d12_putAs_62 : decode c12_putAs 62 = .ok (.iload 4, 2) := by decide +kernel
theorem d12_putAs_64 : decode c12_putAs 64 = .ok (.ishl, 1) := by decide +kernel
theorem d12_putAs_65 : decode c12_putAs 65 = .ok (.ior, 1) := by decide +kernel
theorem d12_putAs_66 : decode c12_putAs 66 = .ok (.istore_n 3, 1) := by decide +kernel
theorem d12_putAs_67 : decode c12_putAs 67 = .ok (.iinc 4 1, 3) := by decide +kernel
theorem d12_putAs_70 : decode c12_putAs 70 = .ok (.goto (-41), 3) := by decide +kernel
theorem d12_putAs_73 : decode c12_putAs 73 = .ok (.aload_n 0, 1) := by decide +kernel
theorem d12_putAs_74 : decode c12_putAs 74 = .ok (.getfield 39, 3) := by decide +kernel
theorem d12_putAs_77 : decode c12_putAs 77 = .ok (.bipush 53, 2) := by decide +kernel
theorem d12_putAs_79 : decode c12_putAs 79 = .ok (.iload_n 1, 1) := by decide +kernel
theorem d12_putAs_80 : decode c12_putAs 80 = .ok (.iadd, 1) := by decide +kernel
theorem d12_putAs_81 : decode c12_putAs 81 = .ok (.iload_n 2, 1) := by decide +kernel
theorem d12_putAs_82 : decode c12_putAs 82 = .ok (.iastore, 1) := by decide +kernel
theorem d12_putAs_83 : decode c12_putAs 83 = .ok (.aload_n 0, 1) := by decide +kernel
theorem d12_putAs_84 : decode c12_putAs 84 = .ok (.invokevirtual 378, 3) := by decide +kernel
theorem d12_putAs_87 : decode c12_putAs 87 = .ok (.iload_n 3, 1) := by decide +kernel
theorem d12_putAs_88 : decode c12_putAs 88 = .ok (.ireturn, 1) := by decide +kernel
abbrev c12_seed : ByteArray := prog_14_method_112_code
def y12_seed : MethodName := ⟨RX12, "seed", "(I)I"⟩
theorem d12_seed_0 : decode c12_seed 0 = .ok (.iload_n 1, 1) := by decide +kernel
theorem d12_seed_1 : decode c12_seed 1 = .ok (.ifCond .ge 5, 3) := by decide +kernel
theorem d12_seed_4 : decode c12_seed 4 = .ok (.iconst (-1), 1) := by decide +kernel
theorem d12_seed_5 : decode c12_seed 5 = .ok (.ireturn, 1) := by decide +kernel
theorem d12_seed_6 : decode c12_seed 6 = .ok (.aload_n 0, 1) := by decide +kernel
theorem d12_seed_7 : decode c12_seed 7 = .ok (.getfield 448, 3) := by decide +kernel
theorem d12_seed_10 : decode c12_seed 10 = .ok (.istore_n 2, 1) := by decide +kernel
theorem d12_seed_11 : decode c12_seed 11 = .ok (.aload_n 0, 1) := by decide +kernel
theorem d12_seed_12 : decode c12_seed 12 = .ok (.iload_n 1, 1) := by decide +kernel
theorem d12_seed_13 : decode c12_seed 13 = .ok (.putfield 448, 3) := by decide +kernel
theorem d12_seed_16 : decode c12_seed 16 = .ok (.iload_n 2, 1) := by decide +kernel
theorem d12_seed_17 : decode c12_seed 17 = .ok (.ireturn, 1) := by decide +kernel
abbrev c12_draw : ByteArray := prog_14_method_113_code
def y12_draw : MethodName := ⟨RX12, "draw", "(I)I"⟩
theorem d12_draw_0 : decode c12_draw 0 = .ok (.aload_n 0, 1) := by decide +kernel
theorem d12_draw_1 : decode c12_draw 1 = .ok (.aload_n 0, 1) := by decide +kernel
theorem d12_draw_2 : decode c12_draw 2 = .ok (.getfield 451, 3) := by decide +kernel
theorem d12_draw_5 : decode c12_draw 5 = .ok (.ldc2_w 455, 3) := by decide +kernel
theorem d12_draw_8 : decode c12_draw 8 = .ok (.lmul, 1) := by decide +kernel
theorem d12_draw_9 : decode c12_draw 9 = .ok (.ldc2_w 457, 3) := by decide +kernel
theorem d12_draw_12 : decode c12_draw 12 = .ok (.ladd, 1) := by decide +kernel
theorem d12_draw_13 : decode c12_draw 13 = .ok (.ldc2_w 459, 3) := by decide +kernel
theorem d12_draw_16 : decode c12_draw 16 = .ok (.lrem, 1) := by decide +kernel
theorem d12_draw_17 : decode c12_draw 17 = .ok (.putfield 451, 3) := by decide +kernel
theorem d12_draw_20 : decode c12_draw 20 = .ok (.aload_n 0, 1) := by decide +kernel
theorem d12_draw_21 : decode c12_draw 21 = .ok (.getfield 451, 3) := by decide +kernel
theorem d12_draw_24 : decode c12_draw 24 = .ok (.ldc2_w 461, 3) := by decide +kernel
theorem d12_draw_27 : decode c12_draw 27 = .ok (.ldiv, 1) := by decide +kernel
theorem d12_draw_28 : decode c12_draw 28 = .ok (.iload_n 1, 1) := by decide +kernel
theorem d12_draw_29 : decode c12_draw 29 = .ok (.i2l, 1) := by decide +kernel
theorem d12_draw_30 : decode c12_draw 30 = .ok (.lrem, 1) := by decide +kernel
theorem d12_draw_31 : decode c12_draw 31 = .ok (.l2i, 1) := by decide +kernel
theorem d12_draw_32 : decode c12_draw 32 = .ok (.ireturn, 1) := by decide +kernel
