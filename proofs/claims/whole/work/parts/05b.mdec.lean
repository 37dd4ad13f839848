abbrev c12_isInside : ByteArray := prog_14_method_27_code
def y12_isInside : MethodName := ⟨RX12, "isInside", "()Z"⟩
theorem d12_isInside_0 : decode c12_isInside 0 = .ok (.iconst 0, 1) := by decide +kernel
theorem d12_isInside_1 : decode c12_isInside 1 = .ok (.istore_n 1, 1) := by decide +kernel
theorem d12_isInside_2 : decode c12_isInside 2 = .ok (.iload_n 1, 1) := by decide +kernel
theorem d12_isInside_3 : decode c12_isInside 3 = .ok (.aload_n 0, 1) := by decide +kernel
theorem d12_isInside_4 : decode c12_isInside 4 = .ok (.getfield 164, 3) := by decide +kernel
theorem d12_isInside_7 : decode c12_isInside 7 = .ok (.if_icmp .ge 22, 3) := by decide +kernel
theorem d12_isInside_10 : decode c12_isInside 10 = .ok (.aload_n 0, 1) := by decide +kernel
theorem d12_isInside_11 : decode c12_isInside 11 = .ok (.getfield 29, 3) := by decide +kernel
theorem d12_isInside_14 : decode c12_isInside 14 = .ok (.iload_n 1, 1) := by decide +kernel
theorem d12_isInside_15 : decode c12_isInside 15 = .ok (.iaload, 1) := by decide +kernel
theorem d12_isInside_16 : decode c12_isInside 16 = .ok (.bipush 91, 2) := by decide +kernel
theorem d12_isInside_18 : decode c12_isInside 18 = .ok (.if_icmp .ne 5, 3) := by decide +kernel
theorem d12_isInside_21 : decode c12_isInside 21 = .ok (.iconst 1, 1) := by decide +kernel
theorem d12_isInside_22 : decode c12_isInside 22 = .ok (.ireturn, 1) := by decide +kernel
theorem d12_isInside_23 : decode c12_isInside 23 = .ok (.iinc 1 1, 3) := by decide +kernel
theorem d12_isInside_26 : decode c12_isInside 26 = .ok (.goto (-24), 3) := by decide +kernel
theorem d12_isInside_29 : decode c12_isInside 29 = .ok (.iconst 0, 1) := by decide +kernel
theorem d12_isInside_30 : decode c12_isInside 30 = .ok (.ireturn, 1) := by decide +kernel
abbrev c12_closes : ByteArray := prog_14_method_28_code
def y12_closes : MethodName := ⟨RX12, "closes", "()V"⟩
theorem d12_closes_0 : decode c12_closes 0 = .ok (.aload_n 0, 1) := by decide +kernel
theorem d12_closes_1 : decode c12_closes 1 = .ok (.iconst 3, 1) := by decide +kernel
theorem d12_closes_2 : decode c12_closes 2 = .ok (.invokevirtual 203, 3) := by decide +kernel
theorem d12_closes_5 : decode c12_closes 5 = .ok (.aload_n 0, 1) := by decide +kernel
theorem d12_closes_6 : decode c12_closes 6 = .ok (.invokevirtual 102, 3) := by decide +kernel
theorem d12_closes_9 : decode c12_closes 9 = .ok (.bipush 93, 2) := by decide +kernel
theorem d12_closes_11 : decode c12_closes 11 = .ok (.if_icmp .ne 53, 3) := by decide +kernel
theorem d12_closes_14 : decode c12_closes 14 = .ok (.aload_n 0, 1) := by decide +kernel
theorem d12_closes_15 : decode c12_closes 15 = .ok (.invokevirtual 206, 3) := by decide +kernel
theorem d12_closes_18 : decode c12_closes 18 = .ok (.ifCond .eq 46, 3) := by decide +kernel
theorem d12_closes_21 : decode c12_closes 21 = .ok (.aload_n 0, 1) := by decide +kernel
theorem d12_closes_22 : decode c12_closes 22 = .ok (.iconst 1, 1) := by decide +kernel
theorem d12_closes_23 : decode c12_closes 23 = .ok (.invokevirtual 203, 3) := by decide +kernel
theorem d12_closes_26 : decode c12_closes 26 = .ok (.aload_n 0, 1) := by decide +kernel
theorem d12_closes_27 : decode c12_closes 27 = .ok (.dup, 1) := by decide +kernel
theorem d12_closes_28 : decode c12_closes 28 = .ok (.getfield 164, 3) := by decide +kernel
theorem d12_closes_31 : decode c12_closes 31 = .ok (.iconst 1, 1) := by decide +kernel
theorem d12_closes_32 : decode c12_closes 32 = .ok (.isub, 1) := by decide +kernel
theorem d12_closes_33 : decode c12_closes 33 = .ok (.putfield 164, 3) := by decide +kernel
theorem d12_closes_36 : decode c12_closes 36 = .ok (.aload_n 0, 1) := by decide +kernel
theorem d12_closes_37 : decode c12_closes 37 = .ok (.dup, 1) := by decide +kernel
theorem d12_closes_38 : decode c12_closes 38 = .ok (.getfield 161, 3) := by decide +kernel
theorem d12_closes_41 : decode c12_closes 41 = .ok (.iconst 1, 1) := by decide +kernel
theorem d12_closes_42 : decode c12_closes 42 = .ok (.isub, 1) := by decide +kernel
theorem d12_closes_43 : decode c12_closes 43 = .ok (.putfield 161, 3) := by decide +kernel
theorem d12_closes_46 : decode c12_closes 46 = .ok (.aload_n 0, 1) := by decide +kernel
theorem d12_closes_47 : decode c12_closes 47 = .ok (.dup, 1) := by decide +kernel
theorem d12_closes_48 : decode c12_closes 48 = .ok (.getfield 99, 3) := by decide +kernel
theorem d12_closes_51 : decode c12_closes 51 = .ok (.iconst 1, 1) := by decide +kernel
theorem d12_closes_52 : decode c12_closes 52 = .ok (.iadd, 1) := by decide +kernel
theorem d12_closes_53 : decode c12_closes 53 = .ok (.putfield 99, 3) := by decide +kernel
theorem d12_closes_56 : decode c12_closes 56 = .ok (.aload_n 0, 1) := by decide +kernel
theorem d12_closes_57 : decode c12_closes 57 = .ok (.iconst 3, 1) := by decide +kernel
theorem d12_closes_58 : decode c12_closes 58 = .ok (.invokevirtual 203, 3) := by decide +kernel
theorem d12_closes_61 : decode c12_closes 61 = .ok (.goto (-56), 3) := by decide +kernel
theorem d12_closes_64 : decode c12_closes 64 = .ok (.return_, 1) := by decide +kernel
abbrev c12_tested : ByteArray := prog_14_method_29_code
def y12_tested : MethodName := ⟨RX12, "tested", "()Z"⟩
theorem d12_tested_0 : decode c12_tested 0 = .ok (.aload_n 0, 1) := by decide +kernel
theorem d12_tested_1 : decode c12_tested 1 = .ok (.iconst 0, 1) := by decide +kernel
theorem d12_tested_2 : decode c12_tested 2 = .ok (.putfield 164, 3) := by decide +kernel
theorem d12_tested_5 : decode c12_tested 5 = .ok (.aload_n 0, 1) := by decide +kernel
theorem d12_tested_6 : decode c12_tested 6 = .ok (.iconst 0, 1) := by decide +kernel
theorem d12_tested_7 : decode c12_tested 7 = .ok (.putfield 161, 3) := by decide +kernel
theorem d12_tested_10 : decode c12_tested 10 = .ok (.iconst 1, 1) := by decide +kernel
theorem d12_tested_11 : decode c12_tested 11 = .ok (.istore_n 1, 1) := by decide +kernel
theorem d12_tested_12 : decode c12_tested 12 = .ok (.iload_n 1, 1) := by decide +kernel
theorem d12_tested_13 : decode c12_tested 13 = .ok (.ifCond .eq 99, 3) := by decide +kernel
theorem d12_tested_16 : decode c12_tested 16 = .ok (.aload_n 0, 1) := by decide +kernel
theorem d12_tested_17 : decode c12_tested 17 = .ok (.invokevirtual 209, 3) := by decide +kernel
theorem d12_tested_20 : decode c12_tested 20 = .ok (.ifCond .ne 5, 3) := by decide +kernel
theorem d12_tested_23 : decode c12_tested 23 = .ok (.iconst 0, 1) := by decide +kernel
theorem d12_tested_24 : decode c12_tested 24 = .ok (.ireturn, 1) := by decide +kernel
theorem d12_tested_25 : decode c12_tested 25 = .ok (.aload_n 0, 1) := by decide +kernel
theorem d12_tested_26 : decode c12_tested 26 = .ok (.invokevirtual 212, 3) := by decide +kernel
theorem d12_tested_29 : decode c12_tested 29 = .ok (.aload_n 0, 1) := by decide +kernel
theorem d12_tested_30 : decode c12_tested 30 = .ok (.ldc2_w 215, 3) := by decide +kernel
theorem d12_tested_33 : decode c12_tested 33 = .ok (.invokevirtual 110, 3) := by decide +kernel
theorem d12_tested_36 : decode c12_tested 36 = .ok (.ifCond .ne 13, 3) := by decide +kernel
theorem d12_tested_39 : decode c12_tested 39 = .ok (.aload_n 0, 1) := by decide +kernel
theorem d12_tested_40 : decode c12_tested 40 = .ok (.ldc2_w 217, 3) := by decide +kernel
theorem d12_tested_43 : decode c12_tested 43 = .ok (.invokevirtual 110, 3) := by decide +kernel
theorem d12_tested_46 : decode c12_tested 46 = .ok (.ifCond .eq 7, 3) := by decide +kernel
theorem d12_tested_49 : decode c12_tested 49 = .ok (.iconst 1, 1) := by decide +kernel
theorem d12_tested_50 : decode c12_tested 50 = .ok (.goto 4, 3) := by decide +kernel
theorem d12_tested_53 : decode c12_tested 53 = .ok (.iconst 0, 1) := by decide +kernel
theorem d12_tested_54 : decode c12_tested 54 = .ok (.istore_n 1, 1) := by decide +kernel
theorem d12_tested_55 : decode c12_tested 55 = .ok (.iload_n 1, 1) := by decide +kernel
theorem d12_tested_56 : decode c12_tested 56 = .ok (.ifCond .eq (-44), 3) := by decide +kernel
theorem d12_tested_59 : decode c12_tested 59 = .ok (.aload_n 0, 1) := by decide +kernel
theorem d12_tested_60 : decode c12_tested 60 = .ok (.ldc2_w 215, 3) := by decide +kernel
theorem d12_tested_63 : decode c12_tested 63 = .ok (.invokevirtual 110, 3) := by decide +kernel
theorem d12_tested_66 : decode c12_tested 66 = .ok (.ifCond .eq 8, 3) := by decide +kernel
theorem d12_tested_69 : decode c12_tested 69 = .ok (.bipush 12, 2) := by decide +kernel
theorem d12_tested_71 : decode c12_tested 71 = .ok (.goto 5, 3) := by decide +kernel
theorem d12_tested_74 : decode c12_tested 74 = .ok (.bipush 13, 2) := by decide +kernel
theorem d12_tested_76 : decode c12_tested 76 = .ok (.istore_n 2, 1) := by decide +kernel
theorem d12_tested_77 : decode c12_tested 77 = .ok (.aload_n 0, 1) := by decide +kernel
theorem d12_tested_78 : decode c12_tested 78 = .ok (.invokevirtual 114, 3) := by decide +kernel
theorem d12_tested_81 : decode c12_tested 81 = .ok (.aload_n 0, 1) := by decide +kernel
theorem d12_tested_82 : decode c12_tested 82 = .ok (.iload_n 2, 1) := by decide +kernel
theorem d12_tested_83 : decode c12_tested 83 = .ok (.invokestatic 167, 3) := by decide +kernel
theorem d12_tested_86 : decode c12_tested 86 = .ok (.invokevirtual 203, 3) := by decide +kernel
theorem d12_tested_89 : decode c12_tested 89 = .ok (.aload_n 0, 1) := by decide +kernel
theorem d12_tested_90 : decode c12_tested 90 = .ok (.getfield 29, 3) := by decide +kernel
theorem d12_tested_93 : decode c12_tested 93 = .ok (.aload_n 0, 1) := by decide +kernel
theorem d12_tested_94 : decode c12_tested 94 = .ok (.getfield 164, 3) := by decide +kernel
theorem d12_tested_97 : decode c12_tested 97 = .ok (.iload_n 2, 1) := by decide +kernel
theorem d12_tested_98 : decode c12_tested 98 = .ok (.iastore, 1) := by decide +kernel
theorem d12_tested_99 : decode c12_tested 99 = .ok (.aload_n 0, 1) := by decide +kernel
theorem d12_tested_100 : decode c12_tested 100 = .ok (.dup, 1) := by decide +kernel
theorem d12_tested_101 : decode c12_tested 101 = .ok (.getfield 164, 3) := by decide +kernel
theorem d12_tested_104 : decode c12_tested 104 = .ok (.iconst 1, 1) := by decide +kernel
theorem d12_tested_105 : decode c12_tested 105 = .ok (.iadd, 1) := by decide +kernel
theorem d12_tested_106 : decode c12_tested 106 = .ok (.putfield 164, 3) := by decide +kernel
theorem d12_tested_109 : decode c12_tested 109 = .ok (.goto (-97), 3) := by decide +kernel
theorem d12_tested_112 : decode c12_tested 112 = .ok (.aload_n 0, 1) := by decide +kernel
theorem d12_tested_113 : decode c12_tested 113 = .ok (.invokevirtual 206, 3) := by decide +kernel
theorem d12_tested_116 : decode c12_tested 116 = .ok (.ifCond .eq 18, 3) := by decide +kernel
theorem d12_tested_119 : decode c12_tested 119 = .ok (.aload_n 0, 1) := by decide +kernel
theorem d12_tested_120 : decode c12_tested 120 = .ok (.invokevirtual 102, 3) := by decide +kernel
theorem d12_tested_123 : decode c12_tested 123 = .ok (.pop, 1) := by decide +kernel
theorem d12_tested_124 : decode c12_tested 124 = .ok (.aload_n 0, 1) := by decide +kernel
theorem d12_tested_125 : decode c12_tested 125 = .ok (.iconst 0, 1) := by decide +kernel
theorem d12_tested_126 : decode c12_tested 126 = .ok (.aload_n 0, 1) := by decide +kernel
theorem d12_tested_127 : decode c12_tested 127 = .ok (.getfield 99, 3) := by decide +kernel
theorem d12_tested_130 : decode c12_tested 130 = .ok (.invokevirtual 120, 3) := by decide +kernel
theorem d12_tested_133 : decode c12_tested 133 = .ok (.ireturn, 1) := by decide +kernel
theorem d12_tested_134 : decode c12_tested 134 = .ok (.aload_n 0, 1) := by decide +kernel
theorem d12_tested_135 : decode c12_tested 135 = .ok (.iconst 1, 1) := by decide +kernel
theorem d12_tested_136 : decode c12_tested 136 = .ok (.invokevirtual 203, 3) := by decide +kernel
theorem d12_tested_139 : decode c12_tested 139 = .ok (.iconst 1, 1) := by decide +kernel
theorem d12_tested_140 : decode c12_tested 140 = .ok (.ireturn, 1) := by decide +kernel
abbrev c12_isMendHere : ByteArray := prog_14_method_30_code
def y12_isMendHere : MethodName := ⟨RX12, "isMendHere", "()Z"⟩
theorem d12_isMendHere_0 : decode c12_isMendHere 0 = .ok (.aload_n 0, 1) := by decide +kernel
theorem d12_isMendHere_1 : decode c12_isMendHere 1 = .ok (.invokevirtual 114, 3) := by decide +kernel
theorem d12_isMendHere_4 : decode c12_isMendHere 4 = .ok (.bipush 48, 2) := by decide +kernel
theorem d12_isMendHere_6 : decode c12_isMendHere 6 = .ok (.aload_n 0, 1) := by decide +kernel
theorem d12_isMendHere_7 : decode c12_isMendHere 7 = .ok (.getfield 155, 3) := by decide +kernel
theorem d12_isMendHere_10 : decode c12_isMendHere 10 = .ok (.imul, 1) := by decide +kernel
theorem d12_isMendHere_11 : decode c12_isMendHere 11 = .ok (.iconst 4, 1) := by decide +kernel
theorem d12_isMendHere_12 : decode c12_isMendHere 12 = .ok (.aload_n 0, 1) := by decide +kernel
theorem d12_isMendHere_13 : decode c12_isMendHere 13 = .ok (.getfield 23, 3) := by decide +kernel
theorem d12_isMendHere_16 : decode c12_isMendHere 16 = .ok (.aload_n 0, 1) := by decide +kernel
theorem d12_isMendHere_17 : decode c12_isMendHere 17 = .ok (.getfield 155, 3) := by decide +kernel
theorem d12_isMendHere_20 : decode c12_isMendHere 20 = .ok (.iaload, 1) := by decide +kernel
theorem d12_isMendHere_21 : decode c12_isMendHere 21 = .ok (.imul, 1) := by decide +kernel
theorem d12_isMendHere_22 : decode c12_isMendHere 22 = .ok (.iadd, 1) := by decide +kernel
theorem d12_isMendHere_23 : decode c12_isMendHere 23 = .ok (.istore_n 1, 1) := by decide +kernel
theorem d12_isMendHere_24 : decode c12_isMendHere 24 = .ok (.aload_n 0, 1) := by decide +kernel
theorem d12_isMendHere_25 : decode c12_isMendHere 25 = .ok (.getfield 20, 3) := by decide +kernel
theorem d12_isMendHere_28 : decode c12_isMendHere 28 = .ok (.iload_n 1, 1) := by decide +kernel
theorem d12_isMendHere_29 : decode c12_isMendHere 29 = .ok (.aload_n 0, 1) := by decide +kernel
theorem d12_isMendHere_30 : decode c12_isMendHere 30 = .ok (.getfield 17, 3) := by decide +kernel
theorem d12_isMendHere_33 : decode c12_isMendHere 33 = .ok (.aload_n 0, 1) := by decide +kernel
theorem d12_isMendHere_34 : decode c12_isMendHere 34 = .ok (.getfield 155, 3) := by decide +kernel
theorem d12_isMendHere_37 : decode c12_isMendHere 37 = .ok (.iaload, 1) := by decide +kernel
theorem d12_isMendHere_38 : decode c12_isMendHere 38 = .ok (.iastore, 1) := by decide +kernel
theorem d12_isMendHere_39 : decode c12_isMendHere 39 = .ok (.aload_n 0, 1) := by decide +kernel
theorem d12_isMendHere_40 : decode c12_isMendHere 40 = .ok (.invokevirtual 192, 3) := by decide +kernel
theorem d12_isMendHere_43 : decode c12_isMendHere 43 = .ok (.ifCond .ne 5, 3) := by decide +kernel
theorem d12_isMendHere_46 : decode c12_isMendHere 46 = .ok (.iconst 0, 1) := by decide +kernel
theorem d12_isMendHere_47 : decode c12_isMendHere 47 = .ok (.ireturn, 1) := by decide +kernel
theorem d12_isMendHere_48 : decode c12_isMendHere 48 = .ok (.aload_n 0, 1) := by decide +kernel
theorem d12_isMendHere_49 : decode c12_isMendHere 49 = .ok (.getfield 20, 3) := by decide +kernel
theorem d12_isMendHere_52 : decode c12_isMendHere 52 = .ok (.iload_n 1, 1) := by decide +kernel
theorem d12_isMendHere_53 : decode c12_isMendHere 53 = .ok (.iconst 1, 1) := by decide +kernel
theorem d12_isMendHere_54 : decode c12_isMendHere 54 = .ok (.iadd, 1) := by decide +kernel
theorem d12_isMendHere_55 : decode c12_isMendHere 55 = .ok (.aload_n 0, 1) := by decide +kernel
theorem d12_isMendHere_56 : decode c12_isMendHere 56 = .ok (.getfield 17, 3) := by decide +kernel
theorem d12_isMendHere_59 : decode c12_isMendHere 59 = .ok (.aload_n 0, 1) := by decide +kernel
theorem d12_isMendHere_60 : decode c12_isMendHere 60 = .ok (.getfield 155, 3) := by decide +kernel
theorem d12_isMendHere_63 : decode c12_isMendHere 63 = .ok (.iaload, 1) := by decide +kernel
theorem d12_isMendHere_64 : decode c12_isMendHere 64 = .ok (.iastore, 1) := by decide +kernel
theorem d12_isMendHere_65 : decode c12_isMendHere 65 = .ok (.aload_n 0, 1) := by decide +kernel
theorem d12_isMendHere_66 : decode c12_isMendHere 66 = .ok (.getfield 20, 3) := by decide +kernel
theorem d12_isMendHere_69 : decode c12_isMendHere 69 = .ok (.iload_n 1, 1) := by decide +kernel
theorem d12_isMendHere_70 : decode c12_isMendHere 70 = .ok (.iconst 2, 1) := by decide +kernel
theorem d12_isMendHere_71 : decode c12_isMendHere 71 = .ok (.iadd, 1) := by decide +kernel
theorem d12_isMendHere_72 : decode c12_isMendHere 72 = .ok (.iconst (-1), 1) := by decide +kernel
theorem d12_isMendHere_73 : decode c12_isMendHere 73 = .ok (.iastore, 1) := by decide +kernel
theorem d12_isMendHere_74 : decode c12_isMendHere 74 = .ok (.aload_n 0, 1) := by decide +kernel
theorem d12_isMendHere_75 : decode c12_isMendHere 75 = .ok (.ldc2_w 219, 3) := by decide +kernel
theorem d12_isMendHere_78 : decode c12_isMendHere 78 = .ok (.invokevirtual 221, 3) := by decide +kernel
theorem d12_isMendHere_81 : decode c12_isMendHere 81 = .ok (.ifCond .eq 29, 3) := by decide +kernel
theorem d12_isMendHere_84 : decode c12_isMendHere 84 = .ok (.aload_n 0, 1) := by decide +kernel
theorem d12_isMendHere_85 : decode c12_isMendHere 85 = .ok (.getfield 20, 3) := by decide +kernel
theorem d12_isMendHere_88 : decode c12_isMendHere 88 = .ok (.iload_n 1, 1) := by decide +kernel
theorem d12_isMendHere_89 : decode c12_isMendHere 89 = .ok (.iconst 2, 1) := by decide +kernel
theorem d12_isMendHere_90 : decode c12_isMendHere 90 = .ok (.iadd, 1) := by decide +kernel
theorem d12_isMendHere_91 : decode c12_isMendHere 91 = .ok (.aload_n 0, 1) := by decide +kernel
theorem d12_isMendHere_92 : decode c12_isMendHere 92 = .ok (.getfield 17, 3) := by decide +kernel
theorem d12_isMendHere_95 : decode c12_isMendHere 95 = .ok (.aload_n 0, 1) := by decide +kernel
theorem d12_isMendHere_96 : decode c12_isMendHere 96 = .ok (.getfield 155, 3) := by decide +kernel
theorem d12_isMendHere_99 : decode c12_isMendHere 99 = .ok (.iaload, 1) := by decide +kernel
theorem d12_isMendHere_100 : decode c12_isMendHere 100 = .ok (.iastore, 1) := by decide +kernel
theorem d12_isMendHere_101 : decode c12_isMendHere 101 = .ok (.aload_n 0, 1) := by decide +kernel
theorem d12_isMendHere_102 : decode c12_isMendHere 102 = .ok (.invokevirtual 224, 3) := by decide +kernel
theorem d12_isMendHere_105 : decode c12_isMendHere 105 = .ok (.ifCond .ne 5, 3) := by decide +kernel
theorem d12_isMendHere_108 : decode c12_isMendHere 108 = .ok (.iconst 0, 1) := by decide +kernel
theorem d12_isMendHere_109 : decode c12_isMendHere 109 = .ok (.ireturn, 1) := by decide +kernel
theorem d12_isMendHere_110 : decode c12_isMendHere 110 = .ok (.aload_n 0, 1) := by decide +kernel
theorem d12_isMendHere_111 : decode c12_isMendHere 111 = .ok (.getfield 20, 3) := by decide +kernel
theorem d12_isMendHere_114 : decode c12_isMendHere 114 = .ok (.iload_n 1, 1) := by decide +kernel
theorem d12_isMendHere_115 : decode c12_isMendHere 115 = .ok (.iconst 3, 1) := by decide +kernel
theorem d12_isMendHere_116 : decode c12_isMendHere 116 = .ok (.iadd, 1) := by decide +kernel
theorem d12_isMendHere_117 : decode c12_isMendHere 117 = .ok (.aload_n 0, 1) := by decide +kernel
theorem d12_isMendHere_118 : decode c12_isMendHere 118 = .ok (.getfield 17, 3) := by decide +kernel
theorem d12_isMendHere_121 : decode c12_isMendHere 121 = .ok (.aload_n 0, 1) := by decide +kernel
theorem d12_isMendHere_122 : decode c12_isMendHere 122 = .ok (.getfield 155, 3) := by decide +kernel
theorem d12_isMendHere_125 : decode c12_isMendHere 125 = .ok (.iaload, 1) := by decide +kernel
theorem d12_isMendHere_126 : decode c12_isMendHere 126 = .ok (.iastore, 1) := by decide +kernel
theorem d12_isMendHere_127 : decode c12_isMendHere 127 = .ok (.aload_n 0, 1) := by decide +kernel
theorem d12_isMendHere_128 : decode c12_isMendHere 128 = .ok (.getfield 23, 3) := by decide +kernel
theorem d12_isMendHere_131 : decode c12_isMendHere 131 = .ok (.aload_n 0, 1) := by decide +kernel
theorem d12_isMendHere_132 : decode c12_isMendHere 132 = .ok (.getfield 155, 3) := by decide +kernel
theorem d12_isMendHere_135 : decode c12_isMendHere 135 = .ok (.dup2, 1) := by decide +kernel
theorem d12_isMendHere_136 : decode c12_isMendHere 136 = .ok (.iaload, 1) := by decide +kernel
theorem d12_isMendHere_137 : decode c12_isMendHere 137 = .ok (.iconst 1, 1) := by decide +kernel
theorem d12_isMendHere_138 : decode c12_isMendHere 138 = .ok (.iadd, 1) := by decide +kernel
theorem d12_isMendHere_139 : decode c12_isMendHere 139 = .ok (.iastore, 1) := by decide +kernel
theorem d12_isMendHere_140 : decode c12_isMendHere 140 = .ok (.iconst 1, 1) := by decide +kernel
theorem d12_isMendHere_141 : decode c12_isMendHere 141 = .ok (.ireturn, 1) := by decide +kernel
abbrev c12_cellHere : ByteArray := prog_14_method_31_code
def y12_cellHere : MethodName := ⟨RX12, "cellHere", "(III)Z"⟩
theorem d12_cellHere_0 : decode c12_cellHere 0 = .ok (.aload_n 0, 1) := by decide +kernel
theorem d12_cellHere_1 : decode c12_cellHere 1 = .ok (.iload_n 2, 1) := by decide +kernel
theorem d12_cellHere_2 : decode c12_cellHere 2 = .ok (.iload_n 3, 1) := by decide +kernel
theorem d12_cellHere_3 : decode c12_cellHere 3 = .ok (.invokevirtual 176, 3) := by decide +kernel
theorem d12_cellHere_6 : decode c12_cellHere 6 = .ok (.ifCond .ne 5, 3) := by decide +kernel
theorem d12_cellHere_9 : decode c12_cellHere 9 = .ok (.iconst 0, 1) := by decide +kernel
theorem d12_cellHere_10 : decode c12_cellHere 10 = .ok (.ireturn, 1) := by decide +kernel
theorem d12_cellHere_11 : decode c12_cellHere 11 = .ok (.aload_n 0, 1) := by decide +kernel
theorem d12_cellHere_12 : decode c12_cellHere 12 = .ok (.getfield 26, 3) := by decide +kernel
theorem d12_cellHere_15 : decode c12_cellHere 15 = .ok (.iload_n 1, 1) := by decide +kernel
theorem d12_cellHere_16 : decode c12_cellHere 16 = .ok (.aload_n 0, 1) := by decide +kernel
theorem d12_cellHere_17 : decode c12_cellHere 17 = .ok (.getfield 124, 3) := by decide +kernel
theorem d12_cellHere_20 : decode c12_cellHere 20 = .ok (.iastore, 1) := by decide +kernel
theorem d12_cellHere_21 : decode c12_cellHere 21 = .ok (.iconst 1, 1) := by decide +kernel
theorem d12_cellHere_22 : decode c12_cellHere 22 = .ok (.ireturn, 1) := by decide +kernel
abbrev c12_isBookHere : ByteArray := prog_14_method_32_code
def y12_isBookHere : MethodName := ⟨RX12, "isBookHere", "(I)Z"⟩
theorem d12_isBookHere_0 : decode c12_isBookHere 0 = .ok (.aload_n 0, 1) := by decide +kernel
theorem d12_isBookHere_1 : decode c12_isBookHere 1 = .ok (.getfield 26, 3) := by decide +kernel
theorem d12_isBookHere_4 : decode c12_isBookHere 4 = .ok (.iconst 0, 1) := by decide +kernel
theorem d12_isBookHere_5 : decode c12_isBookHere 5 = .ok (.iaload, 1) := by decide +kernel
theorem d12_isBookHere_6 : decode c12_isBookHere 6 = .ok (.ifCond .le 10, 3) := by decide +kernel
theorem d12_isBookHere_9 : decode c12_isBookHere 9 = .ok (.aload_n 0, 1) := by decide +kernel
theorem d12_isBookHere_10 : decode c12_isBookHere 10 = .ok (.iconst 4, 1) := by decide +kernel
theorem d12_isBookHere_11 : decode c12_isBookHere 11 = .ok (.iload_n 1, 1) := by decide +kernel
theorem d12_isBookHere_12 : decode c12_isBookHere 12 = .ok (.invokevirtual 120, 3) := by decide +kernel
theorem d12_isBookHere_15 : decode c12_isBookHere 15 = .ok (.ireturn, 1) := by decide +kernel
theorem d12_isBookHere_16 : decode c12_isBookHere 16 = .ok (.aload_n 0, 1) := by decide +kernel
theorem d12_isBookHere_17 : decode c12_isBookHere 17 = .ok (.invokevirtual 114, 3) := by decide +kernel
theorem d12_isBookHere_20 : decode c12_isBookHere 20 = .ok (.aload_n 0, 1) := by decide +kernel
theorem d12_isBookHere_21 : decode c12_isBookHere 21 = .ok (.iconst 1, 1) := by decide +kernel
theorem d12_isBookHere_22 : decode c12_isBookHere 22 = .ok (.iconst 1, 1) := by decide +kernel
theorem d12_isBookHere_23 : decode c12_isBookHere 23 = .ok (.bipush 9, 2) := by decide +kernel
theorem d12_isBookHere_25 : decode c12_isBookHere 25 = .ok (.invokevirtual 227, 3) := by decide +kernel
theorem d12_isBookHere_28 : decode c12_isBookHere 28 = .ok (.ifCond .eq 16, 3) := by decide +kernel
theorem d12_isBookHere_31 : decode c12_isBookHere 31 = .ok (.aload_n 0, 1) := by decide +kernel
theorem d12_isBookHere_32 : decode c12_isBookHere 32 = .ok (.bipush 97, 2) := by decide +kernel
theorem d12_isBookHere_34 : decode c12_isBookHere 34 = .ok (.iconst 0, 1) := by decide +kernel
theorem d12_isBookHere_35 : decode c12_isBookHere 35 = .ok (.sipush 999, 3) := by decide +kernel
theorem d12_isBookHere_38 : decode c12_isBookHere 38 = .ok (.invokevirtual 227, 3) := by decide +kernel
theorem d12_isBookHere_41 : decode c12_isBookHere 41 = .ok (.ifCond .ne 5, 3) := by decide +kernel
theorem d12_isBookHere_44 : decode c12_isBookHere 44 = .ok (.iconst 0, 1) := by decide +kernel
theorem d12_isBookHere_45 : decode c12_isBookHere 45 = .ok (.ireturn, 1) := by decide +kernel
theorem d12_isBookHere_46 : decode c12_isBookHere 46 = .ok (.aload_n 0, 1) := by decide +kernel
theorem d12_isBookHere_47 : decode c12_isBookHere 47 = .ok (.getfield 26, 3) := by decide +kernel
theorem d12_isBookHere_50 : decode c12_isBookHere 50 = .ok (.iconst 0, 1) := by decide +kernel
theorem d12_isBookHere_51 : decode c12_isBookHere 51 = .ok (.iconst 1, 1) := by decide +kernel
theorem d12_isBookHere_52 : decode c12_isBookHere 52 = .ok (.iastore, 1) := by decide +kernel
theorem d12_isBookHere_53 : decode c12_isBookHere 53 = .ok (.iconst 1, 1) := by decide +kernel
theorem d12_isBookHere_54 : decode c12_isBookHere 54 = .ok (.ireturn, 1) := by decide +kernel
abbrev c12_isLetterHere : ByteArray := prog_14_method_33_code
def y12_isLetterHere : MethodName := ⟨RX12, "isLetterHere", "(I)Z"⟩
theorem d12_isLetterHere_0 : decode c12_isLetterHere 0 = .ok (.aload_n 0, 1) := by decide +kernel
theorem d12_isLetterHere_1 : decode c12_isLetterHere 1 = .ok (.getfield 26, 3) := by decide +kernel
theorem d12_isLetterHere_4 : decode c12_isLetterHere 4 = .ok (.iconst 3, 1) := by decide +kernel
theorem d12_isLetterHere_5 : decode c12_isLetterHere 5 = .ok (.iaload, 1) := by decide +kernel
theorem d12_isLetterHere_6 : decode c12_isLetterHere 6 = .ok (.bipush 10, 2) := by decide +kernel
theorem d12_isLetterHere_8 : decode c12_isLetterHere 8 = .ok (.if_icmp .ne 10, 3) := by decide +kernel
theorem d12_isLetterHere_11 : decode c12_isLetterHere 11 = .ok (.aload_n 0, 1) := by decide +kernel
theorem d12_isLetterHere_12 : decode c12_isLetterHere 12 = .ok (.iconst 4, 1) := by decide +kernel
theorem d12_isLetterHere_13 : decode c12_isLetterHere 13 = .ok (.iload_n 1, 1) := by decide +kernel
theorem d12_isLetterHere_14 : decode c12_isLetterHere 14 = .ok (.invokevirtual 120, 3) := by decide +kernel
theorem d12_isLetterHere_17 : decode c12_isLetterHere 17 = .ok (.ireturn, 1) := by decide +kernel
theorem d12_isLetterHere_18 : decode c12_isLetterHere 18 = .ok (.aload_n 0, 1) := by decide +kernel
theorem d12_isLetterHere_19 : decode c12_isLetterHere 19 = .ok (.invokevirtual 114, 3) := by decide +kernel
theorem d12_isLetterHere_22 : decode c12_isLetterHere 22 = .ok (.aload_n 0, 1) := by decide +kernel
theorem d12_isLetterHere_23 : decode c12_isLetterHere 23 = .ok (.bipush 53, 2) := by decide +kernel
theorem d12_isLetterHere_25 : decode c12_isLetterHere 25 = .ok (.aload_n 0, 1) := by decide +kernel
theorem d12_isLetterHere_26 : decode c12_isLetterHere 26 = .ok (.getfield 26, 3) := by decide +kernel
theorem d12_isLetterHere_29 : decode c12_isLetterHere 29 = .ok (.iconst 3, 1) := by decide +kernel
theorem d12_isLetterHere_30 : decode c12_isLetterHere 30 = .ok (.iaload, 1) := by decide +kernel
theorem d12_isLetterHere_31 : decode c12_isLetterHere 31 = .ok (.iadd, 1) := by decide +kernel
theorem d12_isLetterHere_32 : decode c12_isLetterHere 32 = .ok (.iconst 0, 1) := by decide +kernel
theorem d12_isLetterHere_33 : decode c12_isLetterHere 33 = .ok (.bipush 7, 2) := by decide +kernel
theorem d12_isLetterHere_35 : decode c12_isLetterHere 35 = .ok (.invokevirtual 227, 3) := by decide +kernel
theorem d12_isLetterHere_38 : decode c12_isLetterHere 38 = .ok (.ifCond .eq 22, 3) := by decide +kernel
theorem d12_isLetterHere_41 : decode c12_isLetterHere 41 = .ok (.aload_n 0, 1) := by decide +kernel
theorem d12_isLetterHere_42 : decode c12_isLetterHere 42 = .ok (.bipush 43, 2) := by decide +kernel
theorem d12_isLetterHere_44 : decode c12_isLetterHere 44 = .ok (.aload_n 0, 1) := by decide +kernel
theorem d12_isLetterHere_45 : decode c12_isLetterHere 45 = .ok (.getfield 26, 3) := by decide +kernel
theorem d12_isLetterHere_48 : decode c12_isLetterHere 48 = .ok (.iconst 3, 1) := by decide +kernel
theorem d12_isLetterHere_49 : decode c12_isLetterHere 49 = .ok (.iaload, 1) := by decide +kernel
theorem d12_isLetterHere_50 : decode c12_isLetterHere 50 = .ok (.iadd, 1) := by decide +kernel
theorem d12_isLetterHere_51 : decode c12_isLetterHere 51 = .ok (.iconst 0, 1) := by decide +kernel
theorem d12_isLetterHere_52 : decode c12_isLetterHere 52 = .ok (.bipush 7, 2) := by decide +kernel
theorem d12_isLetterHere_54 : decode c12_isLetterHere 54 = .ok (.invokevirtual 227, 3) := by decide +kernel
theorem d12_isLetterHere_57 : decode c12_isLetterHere 57 = .ok (.ifCond .ne 5, 3) := by decide +kernel
theorem d12_isLetterHere_60 : decode c12_isLetterHere 60 = .ok (.iconst 0, 1) := by decide +kernel
theorem d12_isLetterHere_61 : decode c12_isLetterHere 61 = .ok (.ireturn, 1) := by decide +kernel
theorem d12_isLetterHere_62 : decode c12_isLetterHere 62 = .ok (.aload_n 0, 1) := by decide +kernel
theorem d12_isLetterHere_63 : decode c12_isLetterHere 63 = .ok (.getfield 26, 3) := by decide +kernel
theorem d12_isLetterHere_66 : decode c12_isLetterHere 66 = .ok (.iconst 3, 1) := by decide +kernel
theorem d12_isLetterHere_67 : decode c12_isLetterHere 67 = .ok (.dup2, 1) := by decide +kernel
theorem d12_isLetterHere_68 : decode c12_isLetterHere 68 = .ok (.iaload, 1) := by decide +kernel
theorem d12_isLetterHere_69 : decode c12_isLetterHere 69 = .ok (.iconst 1, 1) := by decide +kernel
theorem d12_isLetterHere_70 : decode c12_isLetterHere 70 = .ok (.iadd, 1) := by decide +kernel
theorem d12_isLetterHere_71 : decode c12_isLetterHere 71 = .ok (.iastore, 1) := by decide +kernel
theorem d12_isLetterHere_72 : decode c12_isLetterHere 72 = .ok (.iconst 1, 1) := by decide +kernel
theorem d12_isLetterHere_73 : decode c12_isLetterHere 73 = .ok (.ireturn, 1) := by decide +kernel
abbrev c12_isHabitHere : ByteArray := prog_14_method_34_code
def y12_isHabitHere : MethodName := ⟨RX12, "isHabitHere", "(I)Z"⟩
theorem d12_isHabitHere_0 : decode c12_isHabitHere 0 = .ok (.aload_n 0, 1) := by decide +kernel
theorem d12_isHabitHere_1 : decode c12_isHabitHere 1 = .ok (.getfield 26, 3) := by decide +kernel
theorem d12_isHabitHere_4 : decode c12_isHabitHere 4 = .ok (.iconst 2, 1) := by decide +kernel
theorem d12_isHabitHere_5 : decode c12_isHabitHere 5 = .ok (.iaload, 1) := by decide +kernel
theorem d12_isHabitHere_6 : decode c12_isHabitHere 6 = .ok (.bipush 12, 2) := by decide +kernel
theorem d12_isHabitHere_8 : decode c12_isHabitHere 8 = .ok (.if_icmp .ne 10, 3) := by decide +kernel
theorem d12_isHabitHere_11 : decode c12_isHabitHere 11 = .ok (.aload_n 0, 1) := by decide +kernel
theorem d12_isHabitHere_12 : decode c12_isHabitHere 12 = .ok (.iconst 4, 1) := by decide +kernel
theorem d12_isHabitHere_13 : decode c12_isHabitHere 13 = .ok (.iload_n 1, 1) := by decide +kernel
theorem d12_isHabitHere_14 : decode c12_isHabitHere 14 = .ok (.invokevirtual 120, 3) := by decide +kernel
theorem d12_isHabitHere_17 : decode c12_isHabitHere 17 = .ok (.ireturn, 1) := by decide +kernel
theorem d12_isHabitHere_18 : decode c12_isHabitHere 18 = .ok (.aload_n 0, 1) := by decide +kernel
theorem d12_isHabitHere_19 : decode c12_isHabitHere 19 = .ok (.invokevirtual 114, 3) := by decide +kernel
theorem d12_isHabitHere_22 : decode c12_isHabitHere 22 = .ok (.bipush 73, 2) := by decide +kernel
theorem d12_isHabitHere_24 : decode c12_isHabitHere 24 = .ok (.iconst 2, 1) := by decide +kernel
theorem d12_isHabitHere_25 : decode c12_isHabitHere 25 = .ok (.aload_n 0, 1) := by decide +kernel
theorem d12_isHabitHere_26 : decode c12_isHabitHere 26 = .ok (.getfield 26, 3) := by decide +kernel
theorem d12_isHabitHere_29 : decode c12_isHabitHere 29 = .ok (.iconst 2, 1) := by decide +kernel
theorem d12_isHabitHere_30 : decode c12_isHabitHere 30 = .ok (.iaload, 1) := by decide +kernel
theorem d12_isHabitHere_31 : decode c12_isHabitHere 31 = .ok (.imul, 1) := by decide +kernel
theorem d12_isHabitHere_32 : decode c12_isHabitHere 32 = .ok (.iadd, 1) := by decide +kernel
theorem d12_isHabitHere_33 : decode c12_isHabitHere 33 = .ok (.istore_n 2, 1) := by decide +kernel
theorem d12_isHabitHere_34 : decode c12_isHabitHere 34 = .ok (.aload_n 0, 1) := by decide +kernel
theorem d12_isHabitHere_35 : decode c12_isHabitHere 35 = .ok (.iload_n 2, 1) := by decide +kernel
theorem d12_isHabitHere_36 : decode c12_isHabitHere 36 = .ok (.iconst 0, 1) := by decide +kernel
theorem d12_isHabitHere_37 : decode c12_isHabitHere 37 = .ok (.bipush 7, 2) := by decide +kernel
theorem d12_isHabitHere_39 : decode c12_isHabitHere 39 = .ok (.invokevirtual 227, 3) := by decide +kernel
theorem d12_isHabitHere_42 : decode c12_isHabitHere 42 = .ok (.ifCond .eq 16, 3) := by decide +kernel
theorem d12_isHabitHere_45 : decode c12_isHabitHere 45 = .ok (.aload_n 0, 1) := by decide +kernel
theorem d12_isHabitHere_46 : decode c12_isHabitHere 46 = .ok (.iload_n 2, 1) := by decide +kernel
theorem d12_isHabitHere_47 : decode c12_isHabitHere 47 = .ok (.iconst 1, 1) := by decide +kernel
theorem d12_isHabitHere_48 : decode c12_isHabitHere 48 = .ok (.iadd, 1) := by decide +kernel
theorem d12_isHabitHere_49 : decode c12_isHabitHere 49 = .ok (.iconst 0, 1) := by decide +kernel
theorem d12_isHabitHere_50 : decode c12_isHabitHere 50 = .ok (.bipush 7, 2) := by decide +kernel
theorem d12_isHabitHere_52 : decode c12_isHabitHere 52 = .ok (.invokevirtual 227, 3) := by decide +kernel
theorem d12_isHabitHere_55 : decode c12_isHabitHere 55 = .ok (.ifCond .ne 5, 3) := by decide +kernel
theorem d12_isHabitHere_58 : decode c12_isHabitHere 58 = .ok (.iconst 0, 1) := by decide +kernel
theorem d12_isHabitHere_59 : decode c12_isHabitHere 59 = .ok (.ireturn, 1) := by decide +kernel
theorem d12_isHabitHere_60 : decode c12_isHabitHere 60 = .ok (.aload_n 0, 1) := by decide +kernel
theorem d12_isHabitHere_61 : decode c12_isHabitHere 61 = .ok (.getfield 26, 3) := by decide +kernel
theorem d12_isHabitHere_64 : decode c12_isHabitHere 64 = .ok (.iconst 2, 1) := by decide +kernel
theorem d12_isHabitHere_65 : decode c12_isHabitHere 65 = .ok (.dup2, 1) := by decide +kernel
theorem d12_isHabitHere_66 : decode c12_isHabitHere 66 = .ok (.iaload, 1) := by decide +kernel
theorem d12_isHabitHere_67 : decode c12_isHabitHere 67 = .ok (.iconst 1, 1) := by decide +kernel
theorem d12_isHabitHere_68 : decode c12_isHabitHere 68 = .ok (.iadd, 1) := by decide +kernel
theorem d12_isHabitHere_69 : decode c12_isHabitHere 69 = .ok (.iastore, 1) := by decide +kernel
theorem d12_isHabitHere_70 : decode c12_isHabitHere 70 = .ok (.iconst 1, 1) := by decide +kernel
theorem d12_isHabitHere_71 : decode c12_isHabitHere 71 = .ok (.ireturn, 1) := by decide +kernel
abbrev c12_isHangsHere : ByteArray := prog_14_method_35_code
def y12_isHangsHere : MethodName := ⟨RX12, "isHangsHere", "()Z"⟩
theorem d12_isHangsHere_0 : decode c12_isHangsHere 0 = .ok (.aload_n 0, 1) := by decide +kernel
theorem d12_isHangsHere_1 : decode c12_isHangsHere 1 = .ok (.invokevirtual 114, 3) := by decide +kernel
theorem d12_isHangsHere_4 : decode c12_isHangsHere 4 = .ok (.aload_n 0, 1) := by decide +kernel
theorem d12_isHangsHere_5 : decode c12_isHangsHere 5 = .ok (.iconst 0, 1) := by decide +kernel
theorem d12_isHangsHere_6 : decode c12_isHangsHere 6 = .ok (.aload_n 0, 1) := by decide +kernel
theorem d12_isHangsHere_7 : decode c12_isHangsHere 7 = .ok (.getfield 26, 3) := by decide +kernel
theorem d12_isHangsHere_10 : decode c12_isHangsHere 10 = .ok (.iconst 3, 1) := by decide +kernel
theorem d12_isHangsHere_11 : decode c12_isHangsHere 11 = .ok (.iaload, 1) := by decide +kernel
theorem d12_isHangsHere_12 : decode c12_isHangsHere 12 = .ok (.iconst 1, 1) := by decide +kernel
theorem d12_isHangsHere_13 : decode c12_isHangsHere 13 = .ok (.isub, 1) := by decide +kernel
theorem d12_isHangsHere_14 : decode c12_isHangsHere 14 = .ok (.invokevirtual 176, 3) := by decide +kernel
theorem d12_isHangsHere_17 : decode c12_isHangsHere 17 = .ok (.ifCond .ne 5, 3) := by decide +kernel
theorem d12_isHangsHere_20 : decode c12_isHangsHere 20 = .ok (.iconst 0, 1) := by decide +kernel
theorem d12_isHangsHere_21 : decode c12_isHangsHere 21 = .ok (.ireturn, 1) := by decide +kernel
theorem d12_isHangsHere_22 : decode c12_isHangsHere 22 = .ok (.aload_n 0, 1) := by decide +kernel
theorem d12_isHangsHere_23 : decode c12_isHangsHere 23 = .ok (.getfield 124, 3) := by decide +kernel
theorem d12_isHangsHere_26 : decode c12_isHangsHere 26 = .ok (.istore_n 1, 1) := by decide +kernel
theorem d12_isHangsHere_27 : decode c12_isHangsHere 27 = .ok (.aload_n 0, 1) := by decide +kernel
theorem d12_isHangsHere_28 : decode c12_isHangsHere 28 = .ok (.invokevirtual 102, 3) := by decide +kernel
theorem d12_isHangsHere_31 : decode c12_isHangsHere 31 = .ok (.pop, 1) := by decide +kernel
theorem d12_isHangsHere_32 : decode c12_isHangsHere 32 = .ok (.aload_n 0, 1) := by decide +kernel
theorem d12_isHangsHere_33 : decode c12_isHangsHere 33 = .ok (.getfield 99, 3) := by decide +kernel
theorem d12_isHangsHere_36 : decode c12_isHangsHere 36 = .ok (.istore_n 2, 1) := by decide +kernel
theorem d12_isHangsHere_37 : decode c12_isHangsHere 37 = .ok (.aload_n 0, 1) := by decide +kernel
theorem d12_isHangsHere_38 : decode c12_isHangsHere 38 = .ok (.iconst 0, 1) := by decide +kernel
theorem d12_isHangsHere_39 : decode c12_isHangsHere 39 = .ok (.aload_n 0, 1) := by decide +kernel
theorem d12_isHangsHere_40 : decode c12_isHangsHere 40 = .ok (.getfield 26, 3) := by decide +kernel
theorem d12_isHangsHere_43 : decode c12_isHangsHere 43 = .ok (.iconst 3, 1) := by decide +kernel
theorem d12_isHangsHere_44 : decode c12_isHangsHere 44 = .ok (.iaload, 1) := by decide +kernel
theorem d12_isHangsHere_45 : decode c12_isHangsHere 45 = .ok (.iconst 1, 1) := by decide +kernel
theorem d12_isHangsHere_46 : decode c12_isHangsHere 46 = .ok (.isub, 1) := by decide +kernel
theorem d12_isHangsHere_47 : decode c12_isHangsHere 47 = .ok (.invokevirtual 176, 3) := by decide +kernel
theorem d12_isHangsHere_50 : decode c12_isHangsHere 50 = .ok (.ifCond .ne 5, 3) := by decide +kernel
theorem d12_isHangsHere_53 : decode c12_isHangsHere 53 = .ok (.iconst 0, 1) := by decide +kernel
theorem d12_isHangsHere_54 : decode c12_isHangsHere 54 = .ok (.ireturn, 1) := by decide +kernel
theorem d12_isHangsHere_55 : decode c12_isHangsHere 55 = .ok (.iload_n 1, 1) := by decide +kernel
theorem d12_isHangsHere_56 : decode c12_isHangsHere 56 = .ok (.aload_n 0, 1) := by decide +kernel
theorem d12_isHangsHere_57 : decode c12_isHangsHere 57 = .ok (.getfield 124, 3) := by decide +kernel
theorem d12_isHangsHere_60 : decode c12_isHangsHere 60 = .ok (.if_icmp .ne 10, 3) := by decide +kernel
theorem d12_isHangsHere_63 : decode c12_isHangsHere 63 = .ok (.aload_n 0, 1) := by decide +kernel
theorem d12_isHangsHere_64 : decode c12_isHangsHere 64 = .ok (.iconst 1, 1) := by decide +kernel
theorem d12_isHangsHere_65 : decode c12_isHangsHere 65 = .ok (.iload_n 2, 1) := by decide +kernel
theorem d12_isHangsHere_66 : decode c12_isHangsHere 66 = .ok (.invokevirtual 120, 3) := by decide +kernel
theorem d12_isHangsHere_69 : decode c12_isHangsHere 69 = .ok (.ireturn, 1) := by decide +kernel
theorem d12_isHangsHere_70 : decode c12_isHangsHere 70 = .ok (.aload_n 0, 1) := by decide +kernel
theorem d12_isHangsHere_71 : decode c12_isHangsHere 71 = .ok (.getfield 26, 3) := by decide +kernel
theorem d12_isHangsHere_74 : decode c12_isHangsHere 74 = .ok (.bipush 63, 2) := by decide +kernel
theorem d12_isHangsHere_76 : decode c12_isHangsHere 76 = .ok (.iload_n 1, 1) := by decide +kernel
theorem d12_isHangsHere_77 : decode c12_isHangsHere 77 = .ok (.iadd, 1) := by decide +kernel
theorem d12_isHangsHere_78 : decode c12_isHangsHere 78 = .ok (.dup2, 1) := by decide +kernel
theorem d12_isHangsHere_79 : decode c12_isHangsHere 79 = .ok (.iaload, 1) := by decide +kernel
theorem d12_isHangsHere_80 : decode c12_isHangsHere 80 = .ok (.iconst 1, 1) := by decide +kernel
theorem d12_isHangsHere_81 : decode c12_isHangsHere 81 = .ok (.aload_n 0, 1) := by decide +kernel
theorem d12_isHangsHere_82 : decode c12_isHangsHere 82 = .ok (.getfield 124, 3) := by decide +kernel
theorem d12_isHangsHere_85 : decode c12_isHangsHere 85 = .ok (.ishl, 1) := by decide +kernel
theorem d12_isHangsHere_86 : decode c12_isHangsHere 86 = .ok (.ior, 1) := by decide +kernel
theorem d12_isHangsHere_87 : decode c12_isHangsHere 87 = .ok (.iastore, 1) := by decide +kernel
theorem d12_isHangsHere_88 : decode c12_isHangsHere 88 = .ok (.iconst 1, 1) := by decide +kernel
theorem d12_isHangsHere_89 : decode c12_isHangsHere 89 = .ok (.ireturn, 1) := by decide +kernel
abbrev c12_bookLineHere : ByteArray := prog_14_method_36_code
def y12_bookLineHere : MethodName := ⟨RX12, "bookLineHere", "(I)Z"⟩
theorem d12_bookLineHere_0 : decode c12_bookLineHere 0 = .ok (.aload_n 0, 1) := by decide +kernel
theorem d12_bookLineHere_1 : decode c12_bookLineHere 1 = .ok (.ldc2_w 231, 3) := by decide +kernel
theorem d12_bookLineHere_4 : decode c12_bookLineHere 4 = .ok (.invokevirtual 110, 3) := by decide +kernel
theorem d12_bookLineHere_7 : decode c12_bookLineHere 7 = .ok (.ifCond .eq 9, 3) := by decide +kernel
theorem d12_bookLineHere_10 : decode c12_bookLineHere 10 = .ok (.aload_n 0, 1) := by decide +kernel
theorem d12_bookLineHere_11 : decode c12_bookLineHere 11 = .ok (.iload_n 1, 1) := by decide +kernel
theorem d12_bookLineHere_12 : decode c12_bookLineHere 12 = .ok (.invokevirtual 233, 3) := by decide +kernel
theorem d12_bookLineHere_15 : decode c12_bookLineHere 15 = .ok (.ireturn, 1) := by decide +kernel
theorem d12_bookLineHere_16 : decode c12_bookLineHere 16 = .ok (.aload_n 0, 1) := by decide +kernel
theorem d12_bookLineHere_17 : decode c12_bookLineHere 17 = .ok (.getfield 26, 3) := by decide +kernel
theorem d12_bookLineHere_20 : decode c12_bookLineHere 20 = .ok (.iconst 0, 1) := by decide +kernel
theorem d12_bookLineHere_21 : decode c12_bookLineHere 21 = .ok (.iaload, 1) := by decide +kernel
theorem d12_bookLineHere_22 : decode c12_bookLineHere 22 = .ok (.ifCond .ne 10, 3) := by decide +kernel
theorem d12_bookLineHere_25 : decode c12_bookLineHere 25 = .ok (.aload_n 0, 1) := by decide +kernel
theorem d12_bookLineHere_26 : decode c12_bookLineHere 26 = .ok (.iconst 4, 1) := by decide +kernel
theorem d12_bookLineHere_27 : decode c12_bookLineHere 27 = .ok (.iload_n 1, 1) := by decide +kernel
theorem d12_bookLineHere_28 : decode c12_bookLineHere 28 = .ok (.invokevirtual 120, 3) := by decide +kernel
theorem d12_bookLineHere_31 : decode c12_bookLineHere 31 = .ok (.ireturn, 1) := by decide +kernel
theorem d12_bookLineHere_32 : decode c12_bookLineHere 32 = .ok (.aload_n 0, 1) := by decide +kernel
theorem d12_bookLineHere_33 : decode c12_bookLineHere 33 = .ok (.ldc2_w 131, 3) := by decide +kernel
theorem d12_bookLineHere_36 : decode c12_bookLineHere 36 = .ok (.invokevirtual 110, 3) := by decide +kernel
theorem d12_bookLineHere_39 : decode c12_bookLineHere 39 = .ok (.ifCond .eq 9, 3) := by decide +kernel
theorem d12_bookLineHere_42 : decode c12_bookLineHere 42 = .ok (.aload_n 0, 1) := by decide +kernel
theorem d12_bookLineHere_43 : decode c12_bookLineHere 43 = .ok (.iload_n 1, 1) := by decide +kernel
theorem d12_bookLineHere_44 : decode c12_bookLineHere 44 = .ok (.invokevirtual 236, 3) := by decide +kernel
theorem d12_bookLineHere_47 : decode c12_bookLineHere 47 = .ok (.ireturn, 1) := by decide +kernel
theorem d12_bookLineHere_48 : decode c12_bookLineHere 48 = .ok (.aload_n 0, 1) := by decide +kernel
theorem d12_bookLineHere_49 : decode c12_bookLineHere 49 = .ok (.ldc2_w 239, 3) := by decide +kernel
theorem d12_bookLineHere_52 : decode c12_bookLineHere 52 = .ok (.invokevirtual 110, 3) := by decide +kernel
theorem d12_bookLineHere_55 : decode c12_bookLineHere 55 = .ok (.ifCond .eq 11, 3) := by decide +kernel
theorem d12_bookLineHere_58 : decode c12_bookLineHere 58 = .ok (.aload_n 0, 1) := by decide +kernel
theorem d12_bookLineHere_59 : decode c12_bookLineHere 59 = .ok (.iload_n 1, 1) := by decide +kernel
theorem d12_bookLineHere_60 : decode c12_bookLineHere 60 = .ok (.invokevirtual 241, 3) := by decide +kernel
theorem d12_bookLineHere_63 : decode c12_bookLineHere 63 = .ok (.goto 7, 3) := by decide +kernel
theorem d12_bookLineHere_66 : decode c12_bookLineHere 66 = .ok (.aload_n 0, 1) := by decide +kernel
theorem d12_bookLineHere_67 : decode c12_bookLineHere 67 = .ok (.invokevirtual 244, 3) := by decide +kernel
theorem d12_bookLineHere_70 : decode c12_bookLineHere 70 = .ok (.ireturn, 1) := by decide +kernel
abbrev c12_isBookWord : ByteArray := prog_14_method_37_code
def y12_isBookWord : MethodName := ⟨RX12, "isBookWord", "()Z"⟩
theorem d12_isBookWord_0 : decode c12_isBookWord 0 = .ok (.aload_n 0, 1) := by decide +kernel
theorem d12_isBookWord_1 : decode c12_isBookWord 1 = .ok (.ldc2_w 231, 3) := by decide +kernel
theorem d12_isBookWord_4 : decode c12_isBookWord 4 = .ok (.invokevirtual 110, 3) := by decide +kernel
theorem d12_isBookWord_7 : decode c12_isBookWord 7 = .ok (.ifCond .ne 33, 3) := by decide +kernel
theorem d12_isBookWord_10 : decode c12_isBookWord 10 = .ok (.aload_n 0, 1) := by decide +kernel
theorem d12_isBookWord_11 : decode c12_isBookWord 11 = .ok (.ldc2_w 131, 3) := by decide +kernel
theorem d12_isBookWord_14 : decode c12_isBookWord 14 = .ok (.invokevirtual 110, 3) := by decide +kernel
theorem d12_isBookWord_17 : decode c12_isBookWord 17 = .ok (.ifCond .ne 23, 3) := by decide +kernel
theorem d12_isBookWord_20 : decode c12_isBookWord 20 = .ok (.aload_n 0, 1) := by decide +kernel
theorem d12_isBookWord_21 : decode c12_isBookWord 21 = .ok (.ldc2_w 239, 3) := by decide +kernel
theorem d12_isBookWord_24 : decode c12_isBookWord 24 = .ok (.invokevirtual 110, 3) := by decide +kernel
theorem d12_isBookWord_27 : decode c12_isBookWord 27 = .ok (.ifCond .ne 13, 3) := by decide +kernel
theorem d12_isBookWord_30 : decode c12_isBookWord 30 = .ok (.aload_n 0, 1) := by decide +kernel
theorem d12_isBookWord_31 : decode c12_isBookWord 31 = .ok (.ldc2_w 247, 3) := by decide +kernel
theorem d12_isBookWord_34 : decode c12_isBookWord 34 = .ok (.invokevirtual 110, 3) := by decide +kernel
theorem d12_isBookWord_37 : decode c12_isBookWord 37 = .ok (.ifCond .eq 7, 3) := by decide +kernel
theorem d12_isBookWord_40 : decode c12_isBookWord 40 = .ok (.iconst 1, 1) := by decide +kernel
theorem d12_isBookWord_41 : decode c12_isBookWord 41 = .ok (.goto 4, 3) := by decide +kernel
theorem d12_isBookWord_44 : decode c12_isBookWord 44 = .ok (.iconst 0, 1) := by decide +kernel
theorem d12_isBookWord_45 : decode c12_isBookWord 45 = .ok (.ireturn, 1) := by decide +kernel
abbrev c12_clauseHere : ByteArray := prog_14_method_38_code
def y12_clauseHere : MethodName := ⟨RX12, "clauseHere", "()Z"⟩
theorem d12_clauseHere_0 : decode c12_clauseHere 0 = .ok (.aload_n 0, 1) := by decide +kernel
theorem d12_clauseHere_1 : decode c12_clauseHere 1 = .ok (.invokevirtual 102, 3) := by decide +kernel
theorem d12_clauseHere_4 : decode c12_clauseHere 4 = .ok (.pop, 1) := by decide +kernel
theorem d12_clauseHere_5 : decode c12_clauseHere 5 = .ok (.aload_n 0, 1) := by decide +kernel
theorem d12_clauseHere_6 : decode c12_clauseHere 6 = .ok (.getfield 99, 3) := by decide +kernel
theorem d12_clauseHere_9 : decode c12_clauseHere 9 = .ok (.istore_n 1, 1) := by decide +kernel
theorem d12_clauseHere_10 : decode c12_clauseHere 10 = .ok (.aload_n 0, 1) := by decide +kernel
theorem d12_clauseHere_11 : decode c12_clauseHere 11 = .ok (.getfield 155, 3) := by decide +kernel
theorem d12_clauseHere_14 : decode c12_clauseHere 14 = .ok (.bipush 6, 2) := by decide +kernel
theorem d12_clauseHere_16 : decode c12_clauseHere 16 = .ok (.if_icmp .ne 7, 3) := by decide +kernel
theorem d12_clauseHere_19 : decode c12_clauseHere 19 = .ok (.iconst 1, 1) := by decide +kernel
theorem d12_clauseHere_20 : decode c12_clauseHere 20 = .ok (.goto 4, 3) := by decide +kernel
theorem d12_clauseHere_23 : decode c12_clauseHere 23 = .ok (.iconst 0, 1) := by decide +kernel
theorem d12_clauseHere_24 : decode c12_clauseHere 24 = .ok (.istore_n 2, 1) := by decide +kernel
theorem d12_clauseHere_25 : decode c12_clauseHere 25 = .ok (.iload_n 2, 1) := by decide +kernel
theorem d12_clauseHere_26 : decode c12_clauseHere 26 = .ok (.ifCond .eq 13, 3) := by decide +kernel
theorem d12_clauseHere_29 : decode c12_clauseHere 29 = .ok (.aload_n 0, 1) := by decide +kernel
theorem d12_clauseHere_30 : decode c12_clauseHere 30 = .ok (.invokevirtual 249, 3) := by decide +kernel
theorem d12_clauseHere_33 : decode c12_clauseHere 33 = .ok (.ifCond .ne 23, 3) := by decide +kernel
theorem d12_clauseHere_36 : decode c12_clauseHere 36 = .ok (.goto 13, 3) := by decide +kernel
theorem d12_clauseHere_39 : decode c12_clauseHere 39 = .ok (.aload_n 0, 1) := by decide +kernel
theorem d12_clauseHere_40 : decode c12_clauseHere 40 = .ok (.ldc2_w 252, 3) := by decide +kernel
theorem d12_clauseHere_43 : decode c12_clauseHere 43 = .ok (.invokevirtual 110, 3) := by decide +kernel
theorem d12_clauseHere_46 : decode c12_clauseHere 46 = .ok (.ifCond .ne 10, 3) := by decide +kernel
theorem d12_clauseHere_49 : decode c12_clauseHere 49 = .ok (.aload_n 0, 1) := by decide +kernel
theorem d12_clauseHere_50 : decode c12_clauseHere 50 = .ok (.iconst 0, 1) := by decide +kernel
theorem d12_clauseHere_51 : decode c12_clauseHere 51 = .ok (.iload_n 1, 1) := by decide +kernel
theorem d12_clauseHere_52 : decode c12_clauseHere 52 = .ok (.invokevirtual 120, 3) := by decide +kernel
theorem d12_clauseHere_55 : decode c12_clauseHere 55 = .ok (.ireturn, 1) := by decide +kernel
theorem d12_clauseHere_56 : decode c12_clauseHere 56 = .ok (.aload_n 0, 1) := by decide +kernel
theorem d12_clauseHere_57 : decode c12_clauseHere 57 = .ok (.getfield 254, 3) := by decide +kernel
theorem d12_clauseHere_60 : decode c12_clauseHere 60 = .ok (.iload_n 2, 1) := by decide +kernel
theorem d12_clauseHere_61 : decode c12_clauseHere 61 = .ok (.ifCond .eq 8, 3) := by decide +kernel
theorem d12_clauseHere_64 : decode c12_clauseHere 64 = .ok (.bipush 40, 2) := by decide +kernel
theorem d12_clauseHere_66 : decode c12_clauseHere 66 = .ok (.goto 5, 3) := by decide +kernel
theorem d12_clauseHere_69 : decode c12_clauseHere 69 = .ok (.bipush 12, 2) := by decide +kernel
theorem d12_clauseHere_71 : decode c12_clauseHere 71 = .ok (.if_icmp .ne 10, 3) := by decide +kernel
theorem d12_clauseHere_74 : decode c12_clauseHere 74 = .ok (.aload_n 0, 1) := by decide +kernel
theorem d12_clauseHere_75 : decode c12_clauseHere 75 = .ok (.iconst 4, 1) := by decide +kernel
theorem d12_clauseHere_76 : decode c12_clauseHere 76 = .ok (.iload_n 1, 1) := by decide +kernel
theorem d12_clauseHere_77 : decode c12_clauseHere 77 = .ok (.invokevirtual 120, 3) := by decide +kernel
theorem d12_clauseHere_80 : decode c12_clauseHere 80 = .ok (.ireturn, 1) := by decide +kernel
theorem d12_clauseHere_81 : decode c12_clauseHere 81 = .ok (.aload_n 0, 1) := by decide +kernel
theorem d12_clauseHere_82 : decode c12_clauseHere 82 = .ok (.dup, 1) := by decide +kernel
theorem d12_clauseHere_83 : decode c12_clauseHere 83 = .ok (.getfield 254, 3) := by decide +kernel
theorem d12_clauseHere_86 : decode c12_clauseHere 86 = .ok (.iconst 1, 1) := by decide +kernel
theorem d12_clauseHere_87 : decode c12_clauseHere 87 = .ok (.iadd, 1) := by decide +kernel
theorem d12_clauseHere_88 : decode c12_clauseHere 88 = .ok (.putfield 254, 3) := by decide +kernel
theorem d12_clauseHere_91 : decode c12_clauseHere 91 = .ok (.iload_n 2, 1) := by decide +kernel
theorem d12_clauseHere_92 : decode c12_clauseHere 92 = .ok (.ifCond .eq 11, 3) := by decide +kernel
theorem d12_clauseHere_95 : decode c12_clauseHere 95 = .ok (.aload_n 0, 1) := by decide +kernel
theorem d12_clauseHere_96 : decode c12_clauseHere 96 = .ok (.iload_n 1, 1) := by decide +kernel
theorem d12_clauseHere_97 : decode c12_clauseHere 97 = .ok (.invokevirtual 257, 3) := by decide +kernel
theorem d12_clauseHere_100 : decode c12_clauseHere 100 = .ok (.goto 7, 3) := by decide +kernel
theorem d12_clauseHere_103 : decode c12_clauseHere 103 = .ok (.aload_n 0, 1) := by decide +kernel
theorem d12_clauseHere_104 : decode c12_clauseHere 104 = .ok (.invokevirtual 260, 3) := by decide +kernel
theorem d12_clauseHere_107 : decode c12_clauseHere 107 = .ok (.ireturn, 1) := by decide +kernel
abbrev c12_readsAll : ByteArray := prog_14_method_39_code
def y12_readsAll : MethodName := ⟨RX12, "readsAll", "()Z"⟩
theorem d12_readsAll_0 : decode c12_readsAll 0 = .ok (.aload_n 0, 1) := by decide +kernel
theorem d12_readsAll_1 : decode c12_readsAll 1 = .ok (.getfield 17, 3) := by decide +kernel
theorem d12_readsAll_4 : decode c12_readsAll 4 = .ok (.aload_n 0, 1) := by decide +kernel
theorem d12_readsAll_5 : decode c12_readsAll 5 = .ok (.getfield 155, 3) := by decide +kernel
theorem d12_readsAll_8 : decode c12_readsAll 8 = .ok (.iconst 0, 1) := by decide +kernel
theorem d12_readsAll_9 : decode c12_readsAll 9 = .ok (.iastore, 1) := by decide +kernel
theorem d12_readsAll_10 : decode c12_readsAll 10 = .ok (.aload_n 0, 1) := by decide +kernel
theorem d12_readsAll_11 : decode c12_readsAll 11 = .ok (.iconst 0, 1) := by decide +kernel
theorem d12_readsAll_12 : decode c12_readsAll 12 = .ok (.putfield 254, 3) := by decide +kernel
theorem d12_readsAll_15 : decode c12_readsAll 15 = .ok (.aload_n 0, 1) := by decide +kernel
theorem d12_readsAll_16 : decode c12_readsAll 16 = .ok (.iconst 0, 1) := by decide +kernel
theorem d12_readsAll_17 : decode c12_readsAll 17 = .ok (.putfield 99, 3) := by decide +kernel
theorem d12_readsAll_20 : decode c12_readsAll 20 = .ok (.aload_n 0, 1) := by decide +kernel
theorem d12_readsAll_21 : decode c12_readsAll 21 = .ok (.iconst 0, 1) := by decide +kernel
theorem d12_readsAll_22 : decode c12_readsAll 22 = .ok (.putfield 96, 3) := by decide +kernel
theorem d12_readsAll_25 : decode c12_readsAll 25 = .ok (.aload_n 0, 1) := by decide +kernel
theorem d12_readsAll_26 : decode c12_readsAll 26 = .ok (.iconst 0, 1) := by decide +kernel
theorem d12_readsAll_27 : decode c12_readsAll 27 = .ok (.putfield 158, 3) := by decide +kernel
theorem d12_readsAll_30 : decode c12_readsAll 30 = .ok (.aload_n 0, 1) := by decide +kernel
theorem d12_readsAll_31 : decode c12_readsAll 31 = .ok (.invokevirtual 263, 3) := by decide +kernel
theorem d12_readsAll_34 : decode c12_readsAll 34 = .ok (.istore_n 1, 1) := by decide +kernel
theorem d12_readsAll_35 : decode c12_readsAll 35 = .ok (.iload_n 1, 1) := by decide +kernel
theorem d12_readsAll_36 : decode c12_readsAll 36 = .ok (.ifCond .eq 30, 3) := by decide +kernel
theorem d12_readsAll_39 : decode c12_readsAll 39 = .ok (.aload_n 0, 1) := by decide +kernel
theorem d12_readsAll_40 : decode c12_readsAll 40 = .ok (.invokevirtual 102, 3) := by decide +kernel
theorem d12_readsAll_43 : decode c12_readsAll 43 = .ok (.bipush 59, 2) := by decide +kernel
theorem d12_readsAll_45 : decode c12_readsAll 45 = .ok (.if_icmp .ne 21, 3) := by decide +kernel
theorem d12_readsAll_48 : decode c12_readsAll 48 = .ok (.aload_n 0, 1) := by decide +kernel
theorem d12_readsAll_49 : decode c12_readsAll 49 = .ok (.dup, 1) := by decide +kernel
theorem d12_readsAll_50 : decode c12_readsAll 50 = .ok (.getfield 99, 3) := by decide +kernel
theorem d12_readsAll_53 : decode c12_readsAll 53 = .ok (.iconst 1, 1) := by decide +kernel
theorem d12_readsAll_54 : decode c12_readsAll 54 = .ok (.iadd, 1) := by decide +kernel
theorem d12_readsAll_55 : decode c12_readsAll 55 = .ok (.putfield 99, 3) := by decide +kernel
theorem d12_readsAll_58 : decode c12_readsAll 58 = .ok (.aload_n 0, 1) := by decide +kernel
theorem d12_readsAll_59 : decode c12_readsAll 59 = .ok (.invokevirtual 263, 3) := by decide +kernel
theorem d12_readsAll_62 : decode c12_readsAll 62 = .ok (.istore_n 1, 1) := by decide +kernel
theorem d12_readsAll_63 : decode c12_readsAll 63 = .ok (.goto (-28), 3) := by decide +kernel
theorem d12_readsAll_66 : decode c12_readsAll 66 = .ok (.iload_n 1, 1) := by decide +kernel
theorem d12_readsAll_67 : decode c12_readsAll 67 = .ok (.ifCond .eq 21, 3) := by decide +kernel
theorem d12_readsAll_70 : decode c12_readsAll 70 = .ok (.aload_n 0, 1) := by decide +kernel
theorem d12_readsAll_71 : decode c12_readsAll 71 = .ok (.invokevirtual 102, 3) := by decide +kernel
theorem d12_readsAll_74 : decode c12_readsAll 74 = .ok (.iconst (-1), 1) := by decide +kernel
theorem d12_readsAll_75 : decode c12_readsAll 75 = .ok (.if_icmp .eq 13, 3) := by decide +kernel
theorem d12_readsAll_78 : decode c12_readsAll 78 = .ok (.aload_n 0, 1) := by decide +kernel
theorem d12_readsAll_79 : decode c12_readsAll 79 = .ok (.iconst 0, 1) := by decide +kernel
theorem d12_readsAll_80 : decode c12_readsAll 80 = .ok (.aload_n 0, 1) := by decide +kernel
theorem d12_readsAll_81 : decode c12_readsAll 81 = .ok (.getfield 99, 3) := by decide +kernel
theorem d12_readsAll_84 : decode c12_readsAll 84 = .ok (.invokevirtual 120, 3) := by decide +kernel
theorem d12_readsAll_87 : decode c12_readsAll 87 = .ok (.pop, 1) := by decide +kernel
theorem d12_readsAll_88 : decode c12_readsAll 88 = .ok (.aload_n 0, 1) := by decide +kernel
theorem d12_readsAll_89 : decode c12_readsAll 89 = .ok (.iconst 0, 1) := by decide +kernel
theorem d12_readsAll_90 : decode c12_readsAll 90 = .ok (.putfield 89, 3) := by decide +kernel
theorem d12_readsAll_93 : decode c12_readsAll 93 = .ok (.aload_n 0, 1) := by decide +kernel
theorem d12_readsAll_94 : decode c12_readsAll 94 = .ok (.getfield 96, 3) := by decide +kernel
theorem d12_readsAll_97 : decode c12_readsAll 97 = .ok (.ifCond .ne 7, 3) := by decide +kernel
theorem d12_readsAll_100 : decode c12_readsAll 100 = .ok (.iconst 1, 1) := by decide +kernel
theorem d12_readsAll_101 : decode c12_readsAll 101 = .ok (.goto 4, 3) := by decide +kernel
theorem d12_readsAll_104 : decode c12_readsAll 104 = .ok (.iconst 0, 1) := by decide +kernel
theorem d12_readsAll_105 : decode c12_readsAll 105 = .ok (.ireturn, 1) := by decide +kernel
abbrev c12_rule : ByteArray := prog_14_method_40_code
def y12_rule : MethodName := ⟨RX12, "rule", "()I"⟩
theorem d12_rule_0 : decode c12_rule 0 = .ok (.aload_n 0, 1) := by decide +kernel
theorem d12_rule_1 : decode c12_rule 1 = .ok (.getfield 266, 3) := by decide +kernel
theorem d12_rule_4 : decode c12_rule 4 = .ok (.bipush 6, 2) := by decide +kernel
theorem d12_rule_6 : decode c12_rule 6 = .ok (.if_icmp .ne 5, 3) := by decide +kernel
theorem d12_rule_9 : decode c12_rule 9 = .ok (.iconst (-1), 1) := by decide +kernel
theorem d12_rule_10 : decode c12_rule 10 = .ok (.ireturn, 1) := by decide +kernel
theorem d12_rule_11 : decode c12_rule 11 = .ok (.aload_n 0, 1) := by decide +kernel
theorem d12_rule_12 : decode c12_rule 12 = .ok (.aload_n 0, 1) := by decide +kernel
theorem d12_rule_13 : decode c12_rule 13 = .ok (.getfield 266, 3) := by decide +kernel
theorem d12_rule_16 : decode c12_rule 16 = .ok (.putfield 155, 3) := by decide +kernel
theorem d12_rule_19 : decode c12_rule 19 = .ok (.aload_n 0, 1) := by decide +kernel
theorem d12_rule_20 : decode c12_rule 20 = .ok (.getfield 23, 3) := by decide +kernel
theorem d12_rule_23 : decode c12_rule 23 = .ok (.aload_n 0, 1) := by decide +kernel
theorem d12_rule_24 : decode c12_rule 24 = .ok (.getfield 155, 3) := by decide +kernel
theorem d12_rule_27 : decode c12_rule 27 = .ok (.iconst 0, 1) := by decide +kernel
theorem d12_rule_28 : decode c12_rule 28 = .ok (.iastore, 1) := by decide +kernel
theorem d12_rule_29 : decode c12_rule 29 = .ok (.aload_n 0, 1) := by decide +kernel
theorem d12_rule_30 : decode c12_rule 30 = .ok (.invokevirtual 269, 3) := by decide +kernel
theorem d12_rule_33 : decode c12_rule 33 = .ok (.ifCond .ne 11, 3) := by decide +kernel
theorem d12_rule_36 : decode c12_rule 36 = .ok (.bipush (-2), 2) := by decide +kernel
theorem d12_rule_38 : decode c12_rule 38 = .ok (.aload_n 0, 1) := by decide +kernel
theorem d12_rule_39 : decode c12_rule 39 = .ok (.getfield 96, 3) := by decide +kernel
theorem d12_rule_42 : decode c12_rule 42 = .ok (.isub, 1) := by decide +kernel
theorem d12_rule_43 : decode c12_rule 43 = .ok (.ireturn, 1) := by decide +kernel
theorem d12_rule_44 : decode c12_rule 44 = .ok (.aload_n 0, 1) := by decide +kernel
theorem d12_rule_45 : decode c12_rule 45 = .ok (.dup, 1) := by decide +kernel
theorem d12_rule_46 : decode c12_rule 46 = .ok (.getfield 266, 3) := by decide +kernel
theorem d12_rule_49 : decode c12_rule 49 = .ok (.iconst 1, 1) := by decide +kernel
theorem d12_rule_50 : decode c12_rule 50 = .ok (.iadd, 1) := by decide +kernel
theorem d12_rule_51 : decode c12_rule 51 = .ok (.putfield 266, 3) := by decide +kernel
theorem d12_rule_54 : decode c12_rule 54 = .ok (.aload_n 0, 1) := by decide +kernel
theorem d12_rule_55 : decode c12_rule 55 = .ok (.getfield 266, 3) := by decide +kernel
theorem d12_rule_58 : decode c12_rule 58 = .ok (.iconst 1, 1) := by decide +kernel
theorem d12_rule_59 : decode c12_rule 59 = .ok (.isub, 1) := by decide +kernel
theorem d12_rule_60 : decode c12_rule 60 = .ok (.ireturn, 1) := by decide +kernel
abbrev c12_book : ByteArray := prog_14_method_41_code
def y12_book : MethodName := ⟨RX12, "book", "()I"⟩
theorem d12_book_0 : decode c12_book 0 = .ok (.aload_n 0, 1) := by decide +kernel
theorem d12_book_1 : decode c12_book 1 = .ok (.bipush 6, 2) := by decide +kernel
theorem d12_book_3 : decode c12_book 3 = .ok (.putfield 155, 3) := by decide +kernel
theorem d12_book_6 : decode c12_book 6 = .ok (.iconst 0, 1) := by decide +kernel
theorem d12_book_7 : decode c12_book 7 = .ok (.istore_n 1, 1) := by decide +kernel
theorem d12_book_8 : decode c12_book 8 = .ok (.iload_n 1, 1) := by decide +kernel
theorem d12_book_9 : decode c12_book 9 = .ok (.bipush 98, 2) := by decide +kernel
theorem d12_book_11 : decode c12_book 11 = .ok (.if_icmp .ge 16, 3) := by decide +kernel
theorem d12_book_14 : decode c12_book 14 = .ok (.aload_n 0, 1) := by decide +kernel
theorem d12_book_15 : decode c12_book 15 = .ok (.getfield 26, 3) := by decide +kernel
theorem d12_book_18 : decode c12_book 18 = .ok (.iload_n 1, 1) := by decide +kernel
theorem d12_book_19 : decode c12_book 19 = .ok (.iconst 0, 1) := by decide +kernel
theorem d12_book_20 : decode c12_book 20 = .ok (.iastore, 1) := by decide +kernel
theorem d12_book_21 : decode c12_book 21 = .ok (.iinc 1 1, 3) := by decide +kernel
theorem d12_book_24 : decode c12_book 24 = .ok (.goto (-16), 3) := by decide +kernel
theorem d12_book_27 : decode c12_book 27 = .ok (.aload_n 0, 1) := by decide +kernel
theorem d12_book_28 : decode c12_book 28 = .ok (.invokevirtual 269, 3) := by decide +kernel
theorem d12_book_31 : decode c12_book 31 = .ok (.ifCond .ne 11, 3) := by decide +kernel
theorem d12_book_34 : decode c12_book 34 = .ok (.bipush (-2), 2) := by decide +kernel
theorem d12_book_36 : decode c12_book 36 = .ok (.aload_n 0, 1) := by decide +kernel
theorem d12_book_37 : decode c12_book 37 = .ok (.getfield 96, 3) := by decide +kernel
theorem d12_book_40 : decode c12_book 40 = .ok (.isub, 1) := by decide +kernel
theorem d12_book_41 : decode c12_book 41 = .ok (.ireturn, 1) := by decide +kernel
theorem d12_book_42 : decode c12_book 42 = .ok (.iconst 0, 1) := by decide +kernel
theorem d12_book_43 : decode c12_book 43 = .ok (.istore_n 1, 1) := by decide +kernel
theorem d12_book_44 : decode c12_book 44 = .ok (.iload_n 1, 1) := by decide +kernel
theorem d12_book_45 : decode c12_book 45 = .ok (.sipush 129, 3) := by decide +kernel
theorem d12_book_48 : decode c12_book 48 = .ok (.if_icmp .ge 31, 3) := by decide +kernel
theorem d12_book_51 : decode c12_book 51 = .ok (.aload_n 0, 1) := by decide +kernel
theorem d12_book_52 : decode c12_book 52 = .ok (.getfield 39, 3) := by decide +kernel
theorem d12_book_55 : decode c12_book 55 = .ok (.iload_n 1, 1) := by decide +kernel
theorem d12_book_56 : decode c12_book 56 = .ok (.iload_n 1, 1) := by decide +kernel
theorem d12_book_57 : decode c12_book 57 = .ok (.bipush 98, 2) := by decide +kernel
theorem d12_book_59 : decode c12_book 59 = .ok (.if_icmp .ge 12, 3) := by decide +kernel
theorem d12_book_62 : decode c12_book 62 = .ok (.aload_n 0, 1) := by decide +kernel
theorem d12_book_63 : decode c12_book 63 = .ok (.getfield 26, 3) := by decide +kernel
theorem d12_book_66 : decode c12_book 66 = .ok (.iload_n 1, 1) := by decide +kernel
theorem d12_book_67 : decode c12_book 67 = .ok (.iaload, 1) := by decide +kernel
theorem d12_book_68 : decode c12_book 68 = .ok (.goto 4, 3) := by decide +kernel
theorem d12_book_71 : decode c12_book 71 = .ok (.iconst 0, 1) := by decide +kernel
theorem d12_book_72 : decode c12_book 72 = .ok (.iastore, 1) := by decide +kernel
theorem d12_book_73 : decode c12_book 73 = .ok (.iinc 1 1, 3) := by decide +kernel
theorem d12_book_76 : decode c12_book 76 = .ok (.goto (-32), 3) := by decide +kernel
theorem d12_book_79 : decode c12_book 79 = .ok (.aload_n 0, 1) := by decide +kernel
theorem d12_book_80 : decode c12_book 80 = .ok (.invokevirtual 272, 3) := by decide +kernel
theorem d12_book_83 : decode c12_book 83 = .ok (.aload_n 0, 1) := by decide +kernel
theorem d12_book_84 : decode c12_book 84 = .ok (.iconst 0, 1) := by decide +kernel
theorem d12_book_85 : decode c12_book 85 = .ok (.putfield 275, 3) := by decide +kernel
theorem d12_book_88 : decode c12_book 88 = .ok (.aload_n 0, 1) := by decide +kernel
theorem d12_book_89 : decode c12_book 89 = .ok (.getfield 39, 3) := by decide +kernel
theorem d12_book_92 : decode c12_book 92 = .ok (.iconst 3, 1) := by decide +kernel
theorem d12_book_93 : decode c12_book 93 = .ok (.iaload, 1) := by decide +kernel
theorem d12_book_94 : decode c12_book 94 = .ok (.ireturn, 1) := by decide +kernel
abbrev c12_isRule : ByteArray := prog_14_method_42_code
def y12_isRule : MethodName := ⟨RX12, "isRule", "(I)Z"⟩
theorem d12_isRule_0 : decode c12_isRule 0 = .ok (.iload_n 1, 1) := by decide +kernel
theorem d12_isRule_1 : decode c12_isRule 1 = .ok (.ifCond .lt 15, 3) := by decide +kernel
theorem d12_isRule_4 : decode c12_isRule 4 = .ok (.iload_n 1, 1) := by decide +kernel
theorem d12_isRule_5 : decode c12_isRule 5 = .ok (.aload_n 0, 1) := by decide +kernel
theorem d12_isRule_6 : decode c12_isRule 6 = .ok (.getfield 266, 3) := by decide +kernel
theorem d12_isRule_9 : decode c12_isRule 9 = .ok (.if_icmp .ge 7, 3) := by decide +kernel
theorem d12_isRule_12 : decode c12_isRule 12 = .ok (.iconst 1, 1) := by decide +kernel
theorem d12_isRule_13 : decode c12_isRule 13 = .ok (.goto 4, 3) := by decide +kernel
theorem d12_isRule_16 : decode c12_isRule 16 = .ok (.iconst 0, 1) := by decide +kernel
theorem d12_isRule_17 : decode c12_isRule 17 = .ok (.ireturn, 1) := by decide +kernel
abbrev c12_push : ByteArray := prog_14_method_43_code
def y12_push : MethodName := ⟨RX12, "push", "(J)V"⟩
theorem d12_push_0 : decode c12_push 0 = .ok (.aload_n 0, 1) := by decide +kernel
theorem d12_push_1 : decode c12_push 1 = .ok (.getfield 32, 3) := by decide +kernel
theorem d12_push_4 : decode c12_push 4 = .ok (.aload_n 0, 1) := by decide +kernel
theorem d12_push_5 : decode c12_push 5 = .ok (.getfield 278, 3) := by decide +kernel
theorem d12_push_8 : decode c12_push 8 = .ok (.lload_n 1, 1) := by decide +kernel
theorem d12_push_9 : decode c12_push 9 = .ok (.lastore, 1) := by decide +kernel
theorem d12_push_10 : decode c12_push 10 = .ok (.aload_n 0, 1) := by decide +kernel
theorem d12_push_11 : decode c12_push 11 = .ok (.dup, 1) := by decide +kernel
theorem d12_push_12 : decode c12_push 12 = .ok (.getfield 278, 3) := by decide +kernel
theorem d12_push_15 : decode c12_push 15 = .ok (.iconst 1, 1) := by decide +kernel
theorem d12_push_16 : decode c12_push 16 = .ok (.iadd, 1) := by decide +kernel
theorem d12_push_17 : decode c12_push 17 = .ok (.putfield 278, 3) := by decide +kernel
theorem d12_push_20 : decode c12_push 20 = .ok (.return_, 1) := by decide +kernel
abbrev c12_pop : ByteArray := prog_14_method_44_code
def y12_pop : MethodName := ⟨RX12, "pop", "()J"⟩
theorem d12_pop_0 : decode c12_pop 0 = .ok (.aload_n 0, 1) := by decide +kernel
theorem d12_pop_1 : decode c12_pop 1 = .ok (.dup, 1) := by decide +kernel
theorem d12_pop_2 : decode c12_pop 2 = .ok (.getfield 278, 3) := by decide +kernel
theorem d12_pop_5 : decode c12_pop 5 = .ok (.iconst 1, 1) := by decide +kernel
theorem d12_pop_6 : decode c12_pop 6 = .ok (.isub, 1) := by decide +kernel
theorem d12_pop_7 : decode c12_pop 7 = .ok (.putfield 278, 3) := by decide +kernel
theorem d12_pop_10 : decode c12_pop 10 = .ok (.aload_n 0, 1) := by decide +kernel
theorem d12_pop_11 : decode c12_pop 11 = .ok (.getfield 32, 3) := by decide +kernel
theorem d12_pop_14 : decode c12_pop 14 = .ok (.aload_n 0, 1) := by decide +kernel
theorem d12_pop_15 : decode c12_pop 15 = .ok (.getfield 278, 3) := by decide +kernel
theorem d12_pop_18 : decode c12_pop 18 = .ok (.laload, 1) := by decide +kernel
theorem d12_pop_19 : decode c12_pop 19 = .ok (.lreturn, 1) := by decide +kernel
abbrev c12_sumOfTwo : ByteArray := prog_14_method_45_code
def y12_sumOfTwo : MethodName := ⟨RX12, "sumOfTwo", "(IJJ)J"⟩
theorem d12_sumOfTwo_0 : decode c12_sumOfTwo 0 = .ok (.iload_n 0, 1) := by decide +kernel
theorem d12_sumOfTwo_1 : decode c12_sumOfTwo 1 = .ok (.tableswitch 171 2 14 #[67, 71, 75, 79, 107, 119, 131, 143, 155, 171, 167, 171, 93], 67) := by decide +kernel
theorem d12_sumOfTwo_68 : decode c12_sumOfTwo 68 = .ok (.lload_n 1, 1) := by decide +kernel
theorem d12_sumOfTwo_69 : decode c12_sumOfTwo 69 = .ok (.lload_n 3, 1) := by decide +kernel
theorem d12_sumOfTwo_70 : decode c12_sumOfTwo 70 = .ok (.ladd, 1) := by decide +kernel
theorem d12_sumOfTwo_71 : decode c12_sumOfTwo 71 = .ok (.lreturn, 1) := by decide +kernel
theorem d12_sumOfTwo_72 : decode c12_sumOfTwo 72 = .ok (.lload_n 1, 1) := by decide +kernel
theorem d12_sumOfTwo_73 : decode c12_sumOfTwo 73 = .ok (.lload_n 3, 1) := by decide +kernel
theorem d12_sumOfTwo_74 : decode c12_sumOfTwo 74 = .ok (.lsub, 1) := by decide +kernel
theorem d12_sumOfTwo_75 : decode c12_sumOfTwo 75 = .ok (.lreturn, 1) := by decide +kernel
theorem d12_sumOfTwo_76 : decode c12_sumOfTwo 76 = .ok (.lload_n 1, 1) := by decide +kernel
theorem d12_sumOfTwo_77 : decode c12_sumOfTwo 77 = .ok (.lload_n 3, 1) := by decide +kernel
theorem d12_sumOfTwo_78 : decode c12_sumOfTwo 78 = .ok (.lmul, 1) := by decide +kernel
theorem d12_sumOfTwo_79 : decode c12_sumOfTwo 79 = .ok (.lreturn, 1) := by decide +kernel
theorem d12_sumOfTwo_80 : decode c12_sumOfTwo 80 = .ok (.lload_n 3, 1) := by decide +kernel
theorem d12_sumOfTwo_81 : decode c12_sumOfTwo 81 = .ok (.lconst 0, 1) := by decide +kernel
theorem d12_sumOfTwo_82 : decode c12_sumOfTwo 82 = .ok (.lcmp, 1) := by decide +kernel
theorem d12_sumOfTwo_83 : decode c12_sumOfTwo 83 = .ok (.ifCond .ne 7, 3) := by decide +kernel
theorem d12_sumOfTwo_86 : decode c12_sumOfTwo 86 = .ok (.lconst 0, 1) := by decide +kernel
theorem d12_sumOfTwo_87 : decode c12_sumOfTwo 87 = .ok (.goto 6, 3) := by decide +kernel
theorem d12_sumOfTwo_90 : decode c12_sumOfTwo 90 = .ok (.lload_n 1, 1) := by decide +kernel
theorem d12_sumOfTwo_91 : decode c12_sumOfTwo 91 = .ok (.lload_n 3, 1) := by decide +kernel
theorem d12_sumOfTwo_92 : decode c12_sumOfTwo 92 = .ok (.ldiv, 1) := by decide +kernel
theorem d12_sumOfTwo_93 : decode c12_sumOfTwo 93 = .ok (.lreturn, 1) := by decide +kernel
theorem d12_sumOfTwo_94 : decode c12_sumOfTwo 94 = .ok (.lload_n 3, 1) := by decide +kernel
theorem d12_sumOfTwo_95 : decode c12_sumOfTwo 95 = .ok (.lconst 0, 1) := by decide +kernel
theorem d12_sumOfTwo_96 : decode c12_sumOfTwo 96 = .ok (.lcmp, 1) := by decide +kernel
theorem d12_sumOfTwo_97 : decode c12_sumOfTwo 97 = .ok (.ifCond .ne 7, 3) := by decide +kernel
theorem d12_sumOfTwo_100 : decode c12_sumOfTwo 100 = .ok (.lconst 0, 1) := by decide +kernel
theorem d12_sumOfTwo_101 : decode c12_sumOfTwo 101 = .ok (.goto 6, 3) := by decide +kernel
theorem d12_sumOfTwo_104 : decode c12_sumOfTwo 104 = .ok (.lload_n 1, 1) := by decide +kernel
theorem d12_sumOfTwo_105 : decode c12_sumOfTwo 105 = .ok (.lload_n 3, 1) := by decide +kernel
theorem d12_sumOfTwo_106 : decode c12_sumOfTwo 106 = .ok (.lrem, 1) := by decide +kernel
theorem d12_sumOfTwo_107 : decode c12_sumOfTwo 107 = .ok (.lreturn, 1) := by decide +kernel
theorem d12_sumOfTwo_108 : decode c12_sumOfTwo 108 = .ok (.lload_n 1, 1) := by decide +kernel
theorem d12_sumOfTwo_109 : decode c12_sumOfTwo 109 = .ok (.lload_n 3, 1) := by decide +kernel
theorem d12_sumOfTwo_110 : decode c12_sumOfTwo 110 = .ok (.lcmp, 1) := by decide +kernel
theorem d12_sumOfTwo_111 : decode c12_sumOfTwo 111 = .ok (.ifCond .ge 7, 3) := by decide +kernel
theorem d12_sumOfTwo_114 : decode c12_sumOfTwo 114 = .ok (.lconst 1, 1) := by decide +kernel
theorem d12_sumOfTwo_115 : decode c12_sumOfTwo 115 = .ok (.goto 4, 3) := by decide +kernel
theorem d12_sumOfTwo_118 : decode c12_sumOfTwo 118 = .ok (.lconst 0, 1) := by decide +kernel
theorem d12_sumOfTwo_119 : decode c12_sumOfTwo 119 = .ok (.lreturn, 1) := by decide +kernel
theorem d12_sumOfTwo_120 : decode c12_sumOfTwo 120 = .ok (.lload_n 1, 1) := by decide +kernel
theorem d12_sumOfTwo_121 : decode c12_sumOfTwo 121 = .ok (.lload_n 3, 1) := by decide +kernel
theorem d12_sumOfTwo_122 : decode c12_sumOfTwo 122 = .ok (.lcmp, 1) := by decide +kernel
theorem d12_sumOfTwo_123 : decode c12_sumOfTwo 123 = .ok (.ifCond .gt 7, 3) := by decide +kernel
theorem d12_sumOfTwo_126 : decode c12_sumOfTwo 126 = .ok (.lconst 1, 1) := by decide +kernel
theorem d12_sumOfTwo_127 : decode c12_sumOfTwo 127 = .ok (.goto 4, 3) := by decide +kernel
theorem d12_sumOfTwo_130 : decode c12_sumOfTwo 130 = .ok (.lconst 0, 1) := by decide +kernel
theorem d12_sumOfTwo_131 : decode c12_sumOfTwo 131 = .ok (.lreturn, 1) := by decide +kernel
theorem d12_sumOfTwo_132 : decode c12_sumOfTwo 132 = .ok (.lload_n 1, 1) := by decide +kernel
theorem d12_sumOfTwo_133 : decode c12_sumOfTwo 133 = .ok (.lload_n 3, 1) := by decide +kernel
theorem d12_sumOfTwo_134 : decode c12_sumOfTwo 134 = .ok (.lcmp, 1) := by decide +kernel
theorem d12_sumOfTwo_135 : decode c12_sumOfTwo 135 = .ok (.ifCond .ne 7, 3) := by decide +kernel
theorem d12_sumOfTwo_138 : decode c12_sumOfTwo 138 = .ok (.lconst 1, 1) := by decide +kernel
theorem d12_sumOfTwo_139 : decode c12_sumOfTwo 139 = .ok (.goto 4, 3) := by decide +kernel
theorem d12_sumOfTwo_142 : decode c12_sumOfTwo 142 = .ok (.lconst 0, 1) := by decide +kernel
theorem d12_sumOfTwo_143 : decode c12_sumOfTwo 143 = .ok (.lreturn, 1) := by decide +kernel
theorem d12_sumOfTwo_144 : decode c12_sumOfTwo 144 = .ok (.lload_n 1, 1) := by decide +kernel
theorem d12_sumOfTwo_145 : decode c12_sumOfTwo 145 = .ok (.lload_n 3, 1) := by decide +kernel
theorem d12_sumOfTwo_146 : decode c12_sumOfTwo 146 = .ok (.lcmp, 1) := by decide +kernel
theorem d12_sumOfTwo_147 : decode c12_sumOfTwo 147 = .ok (.ifCond .lt 7, 3) := by decide +kernel
theorem d12_sumOfTwo_150 : decode c12_sumOfTwo 150 = .ok (.lconst 1, 1) := by decide +kernel
theorem d12_sumOfTwo_151 : decode c12_sumOfTwo 151 = .ok (.goto 4, 3) := by decide +kernel
theorem d12_sumOfTwo_154 : decode c12_sumOfTwo 154 = .ok (.lconst 0, 1) := by decide +kernel
theorem d12_sumOfTwo_155 : decode c12_sumOfTwo 155 = .ok (.lreturn, 1) := by decide +kernel
theorem d12_sumOfTwo_156 : decode c12_sumOfTwo 156 = .ok (.lload_n 1, 1) := by decide +kernel
theorem d12_sumOfTwo_157 : decode c12_sumOfTwo 157 = .ok (.lload_n 3, 1) := by decide +kernel
theorem d12_sumOfTwo_158 : decode c12_sumOfTwo 158 = .ok (.lcmp, 1) := by decide +kernel
theorem d12_sumOfTwo_159 : decode c12_sumOfTwo 159 = .ok (.ifCond .le 7, 3) := by decide +kernel
theorem d12_sumOfTwo_162 : decode c12_sumOfTwo 162 = .ok (.lconst 1, 1) := by decide +kernel
theorem d12_sumOfTwo_163 : decode c12_sumOfTwo 163 = .ok (.goto 4, 3) := by decide +kernel
theorem d12_sumOfTwo_166 : decode c12_sumOfTwo 166 = .ok (.lconst 0, 1) := by decide +kernel
theorem d12_sumOfTwo_167 : decode c12_sumOfTwo 167 = .ok (.lreturn, 1) := by decide +kernel
theorem d12_sumOfTwo_168 : decode c12_sumOfTwo 168 = .ok (.lload_n 1, 1) := by decide +kernel
theorem d12_sumOfTwo_169 : decode c12_sumOfTwo 169 = .ok (.lload_n 3, 1) := by decide +kernel
theorem d12_sumOfTwo_170 : decode c12_sumOfTwo 170 = .ok (.land, 1) := by decide +kernel
theorem d12_sumOfTwo_171 : decode c12_sumOfTwo 171 = .ok (.lreturn, 1) := by decide +kernel
theorem d12_sumOfTwo_172 : decode c12_sumOfTwo 172 = .ok (.lload_n 1, 1) := by decide +kernel
theorem d12_sumOfTwo_173 : decode c12_sumOfTwo 173 = .ok (.lload_n 3, 1) := by decide +kernel
theorem d12_sumOfTwo_174 : decode c12_sumOfTwo 174 = .ok (.lor, 1) := by decide +kernel
theorem d12_sumOfTwo_175 : decode c12_sumOfTwo 175 = .ok (.lreturn, 1) := by decide +kernel
abbrev c12_reckons : ByteArray := prog_14_method_46_code
def y12_reckons : MethodName := ⟨RX12, "reckons", "(III)J"⟩
theorem d12_reckons_0 : decode c12_reckons 0 = .ok (.aload_n 0, 1) := by decide +kernel
theorem d12_reckons_1 : decode c12_reckons 1 = .ok (.iconst 0, 1) := by decide +kernel
theorem d12_reckons_2 : decode c12_reckons 2 = .ok (.putfield 278, 3) := by decide +kernel
theorem d12_reckons_5 : decode c12_reckons 5 = .ok (.iload_n 2, 1) := by decide +kernel
theorem d12_reckons_6 : decode c12_reckons 6 = .ok (.istore 4, 2) := by decide +kernel
theorem d12_reckons_8 : decode c12_reckons 8 = .ok (.iload 4, 2) := by decide +kernel
theorem d12_reckons_10 : decode c12_reckons 10 = .ok (.iload_n 3, 1) := by decide +kernel
theorem d12_reckons_11 : decode c12_reckons 11 = .ok (.if_icmp .ge 124, 3) := by decide +kernel
theorem d12_reckons_14 : decode c12_reckons 14 = .ok (.aload_n 0, 1) := by decide +kernel
theorem d12_reckons_15 : decode c12_reckons 15 = .ok (.getfield 13, 3) := by decide +kernel
theorem d12_reckons_18 : decode c12_reckons 18 = .ok (.sipush 400, 3) := by decide +kernel
theorem d12_reckons_21 : decode c12_reckons 21 = .ok (.iload_n 1, 1) := by decide +kernel
theorem d12_reckons_22 : decode c12_reckons 22 = .ok (.imul, 1) := by decide +kernel
theorem d12_reckons_23 : decode c12_reckons 23 = .ok (.iload 4, 2) := by decide +kernel
theorem d12_reckons_25 : decode c12_reckons 25 = .ok (.iadd, 1) := by decide +kernel
theorem d12_reckons_26 : decode c12_reckons 26 = .ok (.iaload, 1) := by decide +kernel
theorem d12_reckons_27 : decode c12_reckons 27 = .ok (.bipush 15, 2) := by decide +kernel
theorem d12_reckons_29 : decode c12_reckons 29 = .ok (.iand, 1) := by decide +kernel
theorem d12_reckons_30 : decode c12_reckons 30 = .ok (.istore 5, 2) := by decide +kernel
theorem d12_reckons_32 : decode c12_reckons 32 = .ok (.aload_n 0, 1) := by decide +kernel
theorem d12_reckons_33 : decode c12_reckons 33 = .ok (.getfield 13, 3) := by decide +kernel
theorem d12_reckons_36 : decode c12_reckons 36 = .ok (.sipush 400, 3) := by decide +kernel
theorem d12_reckons_39 : decode c12_reckons 39 = .ok (.iload_n 1, 1) := by decide +kernel
theorem d12_reckons_40 : decode c12_reckons 40 = .ok (.imul, 1) := by decide +kernel
theorem d12_reckons_41 : decode c12_reckons 41 = .ok (.iload 4, 2) := by decide +kernel
theorem d12_reckons_43 : decode c12_reckons 43 = .ok (.iadd, 1) := by decide +kernel
theorem d12_reckons_44 : decode c12_reckons 44 = .ok (.iaload, 1) := by decide +kernel
theorem d12_reckons_45 : decode c12_reckons 45 = .ok (.iconst 4, 1) := by decide +kernel
theorem d12_reckons_46 : decode c12_reckons 46 = .ok (.ishr, 1) := by decide +kernel
theorem d12_reckons_47 : decode c12_reckons 47 = .ok (.istore 6, 2) := by decide +kernel
theorem d12_reckons_49 : decode c12_reckons 49 = .ok (.iload 5, 2) := by decide +kernel
theorem d12_reckons_51 : decode c12_reckons 51 = .ok (.ifCond .ne 13, 3) := by decide +kernel
theorem d12_reckons_54 : decode c12_reckons 54 = .ok (.aload_n 0, 1) := by decide +kernel
theorem d12_reckons_55 : decode c12_reckons 55 = .ok (.iload 6, 2) := by decide +kernel
theorem d12_reckons_57 : decode c12_reckons 57 = .ok (.i2l, 1) := by decide +kernel
theorem d12_reckons_58 : decode c12_reckons 58 = .ok (.invokevirtual 281, 3) := by decide +kernel
theorem d12_reckons_61 : decode c12_reckons 61 = .ok (.goto 68, 3) := by decide +kernel
theorem d12_reckons_64 : decode c12_reckons 64 = .ok (.iload 5, 2) := by decide +kernel
theorem d12_reckons_66 : decode c12_reckons 66 = .ok (.iconst 1, 1) := by decide +kernel
theorem d12_reckons_67 : decode c12_reckons 67 = .ok (.if_icmp .ne 17, 3) := by decide +kernel
theorem d12_reckons_70 : decode c12_reckons 70 = .ok (.aload_n 0, 1) := by decide +kernel
theorem d12_reckons_71 : decode c12_reckons 71 = .ok (.aload_n 0, 1) := by decide +kernel
theorem d12_reckons_72 : decode c12_reckons 72 = .ok (.getfield 36, 3) := by decide +kernel
theorem d12_reckons_75 : decode c12_reckons 75 = .ok (.iload 6, 2) := by decide +kernel
theorem d12_reckons_77 : decode c12_reckons 77 = .ok (.laload, 1) := by decide +kernel
theorem d12_reckons_78 : decode c12_reckons 78 = .ok (.invokevirtual 281, 3) := by decide +kernel
theorem d12_reckons_81 : decode c12_reckons 81 = .ok (.goto 48, 3) := by decide +kernel
theorem d12_reckons_84 : decode c12_reckons 84 = .ok (.iload 5, 2) := by decide +kernel
theorem d12_reckons_86 : decode c12_reckons 86 = .ok (.bipush 11, 2) := by decide +kernel
theorem d12_reckons_88 : decode c12_reckons 88 = .ok (.if_icmp .ne 16, 3) := by decide +kernel
theorem d12_reckons_91 : decode c12_reckons 91 = .ok (.aload_n 0, 1) := by decide +kernel
theorem d12_reckons_92 : decode c12_reckons 92 = .ok (.lconst 1, 1) := by decide +kernel
theorem d12_reckons_93 : decode c12_reckons 93 = .ok (.aload_n 0, 1) := by decide +kernel
theorem d12_reckons_94 : decode c12_reckons 94 = .ok (.invokevirtual 285, 3) := by decide +kernel
theorem d12_reckons_97 : decode c12_reckons 97 = .ok (.lsub, 1) := by decide +kernel
theorem d12_reckons_98 : decode c12_reckons 98 = .ok (.invokevirtual 281, 3) := by decide +kernel
theorem d12_reckons_101 : decode c12_reckons 101 = .ok (.goto 28, 3) := by decide +kernel
theorem d12_reckons_104 : decode c12_reckons 104 = .ok (.aload_n 0, 1) := by decide +kernel
theorem d12_reckons_105 : decode c12_reckons 105 = .ok (.invokevirtual 285, 3) := by decide +kernel
theorem d12_reckons_108 : decode c12_reckons 108 = .ok (.lstore 7, 2) := by decide +kernel
theorem d12_reckons_110 : decode c12_reckons 110 = .ok (.aload_n 0, 1) := by decide +kernel
theorem d12_reckons_111 : decode c12_reckons 111 = .ok (.invokevirtual 285, 3) := by decide +kernel
theorem d12_reckons_114 : decode c12_reckons 114 = .ok (.lstore 9, 2) := by decide +kernel
theorem d12_reckons_116 : decode c12_reckons 116 = .ok (.aload_n 0, 1) := by decide +kernel
theorem d12_reckons_117 : decode c12_reckons 117 = .ok (.iload 5, 2) := by decide +kernel
theorem d12_reckons_119 : decode c12_reckons 119 = .ok (.lload 9, 2) := by decide +kernel
theorem d12_reckons_121 : decode c12_reckons 121 = .ok (.lload 7, 2) := by decide +kernel
theorem d12_reckons_123 : decode c12_reckons 123 = .ok (.invokestatic 289, 3) := by decide +kernel
theorem d12_reckons_126 : decode c12_reckons 126 = .ok (.invokevirtual 281, 3) := by decide +kernel
theorem d12_reckons_129 : decode c12_reckons 129 = .ok (.iinc 4 1, 3) := by decide +kernel
theorem d12_reckons_132 : decode c12_reckons 132 = .ok (.goto (-124), 3) := by decide +kernel
theorem d12_reckons_135 : decode c12_reckons 135 = .ok (.aload_n 0, 1) := by decide +kernel
theorem d12_reckons_136 : decode c12_reckons 136 = .ok (.invokevirtual 285, 3) := by decide +kernel
theorem d12_reckons_139 : decode c12_reckons 139 = .ok (.lreturn, 1) := by decide +kernel
abbrev c12_isBook : ByteArray := prog_14_method_47_code
def y12_isBook : MethodName := ⟨RX12, "isBook", "()Z"⟩
theorem d12_isBook_0 : decode c12_isBook 0 = .ok (.aload_n 0, 1) := by decide +kernel
theorem d12_isBook_1 : decode c12_isBook 1 = .ok (.getfield 39, 3) := by decide +kernel
theorem d12_isBook_4 : decode c12_isBook 4 = .ok (.iconst 0, 1) := by decide +kernel
theorem d12_isBook_5 : decode c12_isBook 5 = .ok (.iaload, 1) := by decide +kernel
theorem d12_isBook_6 : decode c12_isBook 6 = .ok (.iconst 1, 1) := by decide +kernel
theorem d12_isBook_7 : decode c12_isBook 7 = .ok (.if_icmp .ne 7, 3) := by decide +kernel
theorem d12_isBook_10 : decode c12_isBook 10 = .ok (.iconst 1, 1) := by decide +kernel
theorem d12_isBook_11 : decode c12_isBook 11 = .ok (.goto 4, 3) := by decide +kernel
theorem d12_isBook_14 : decode c12_isBook 14 = .ok (.iconst 0, 1) := by decide +kernel
theorem d12_isBook_15 : decode c12_isBook 15 = .ok (.ireturn, 1) := by decide +kernel
abbrev c12_rounds : ByteArray := prog_14_method_48_code
def y12_rounds : MethodName := ⟨RX12, "rounds", "()I"⟩
theorem d12_rounds_0 : decode c12_rounds 0 = .ok (.aload_n 0, 1) := by decide +kernel
theorem d12_rounds_1 : decode c12_rounds 1 = .ok (.invokevirtual 293, 3) := by decide +kernel
theorem d12_rounds_4 : decode c12_rounds 4 = .ok (.ifCond .ne 7, 3) := by decide +kernel
theorem d12_rounds_7 : decode c12_rounds 7 = .ok (.iconst 0, 1) := by decide +kernel
theorem d12_rounds_8 : decode c12_rounds 8 = .ok (.goto 22, 3) := by decide +kernel
theorem d12_rounds_11 : decode c12_rounds 11 = .ok (.aload_n 0, 1) := by decide +kernel
theorem d12_rounds_12 : decode c12_rounds 12 = .ok (.getfield 39, 3) := by decide +kernel
theorem d12_rounds_15 : decode c12_rounds 15 = .ok (.iconst 2, 1) := by decide +kernel
theorem d12_rounds_16 : decode c12_rounds 16 = .ok (.iaload, 1) := by decide +kernel
theorem d12_rounds_17 : decode c12_rounds 17 = .ok (.ifCond .ne 7, 3) := by decide +kernel
theorem d12_rounds_20 : decode c12_rounds 20 = .ok (.iconst 1, 1) := by decide +kernel
theorem d12_rounds_21 : decode c12_rounds 21 = .ok (.goto 9, 3) := by decide +kernel
theorem d12_rounds_24 : decode c12_rounds 24 = .ok (.aload_n 0, 1) := by decide +kernel
theorem d12_rounds_25 : decode c12_rounds 25 = .ok (.getfield 39, 3) := by decide +kernel
theorem d12_rounds_28 : decode c12_rounds 28 = .ok (.iconst 2, 1) := by decide +kernel
theorem d12_rounds_29 : decode c12_rounds 29 = .ok (.iaload, 1) := by decide +kernel
theorem d12_rounds_30 : decode c12_rounds 30 = .ok (.ireturn, 1) := by decide +kernel
abbrev c12_isInBook : ByteArray := prog_14_method_49_code
def y12_isInBook : MethodName := ⟨RX12, "isInBook", "(I)Z"⟩
theorem d12_isInBook_0 : decode c12_isInBook 0 = .ok (.iload_n 1, 1) := by decide +kernel
theorem d12_isInBook_1 : decode c12_isInBook 1 = .ok (.ifCond .lt 17, 3) := by decide +kernel
theorem d12_isInBook_4 : decode c12_isInBook 4 = .ok (.iload_n 1, 1) := by decide +kernel
theorem d12_isInBook_5 : decode c12_isInBook 5 = .ok (.aload_n 0, 1) := by decide +kernel
theorem d12_isInBook_6 : decode c12_isInBook 6 = .ok (.getfield 39, 3) := by decide +kernel
theorem d12_isInBook_9 : decode c12_isInBook 9 = .ok (.iconst 3, 1) := by decide +kernel
theorem d12_isInBook_10 : decode c12_isInBook 10 = .ok (.iaload, 1) := by decide +kernel
theorem d12_isInBook_11 : decode c12_isInBook 11 = .ok (.if_icmp .ge 7, 3) := by decide +kernel
theorem d12_isInBook_14 : decode c12_isInBook 14 = .ok (.iconst 1, 1) := by decide +kernel
theorem d12_isInBook_15 : decode c12_isInBook 15 = .ok (.goto 4, 3) := by decide +kernel
theorem d12_isInBook_18 : decode c12_isInBook 18 = .ok (.iconst 0, 1) := by decide +kernel
theorem d12_isInBook_19 : decode c12_isInBook 19 = .ok (.ireturn, 1) := by decide +kernel
