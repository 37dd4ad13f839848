abbrev c12_fill : ByteArray := prog_14_method_74_code
def y12_fill : MethodName := ⟨RX12, "fill", "(I)I"⟩
theorem d12_fill_0 : decode c12_fill 0 = .ok (.aload_n 0, 1) := by decide +kernel
theorem d12_fill_1 : decode c12_fill 1 = .ok (.invokevirtual 293, 3) := by decide +kernel
theorem d12_fill_4 : decode c12_fill 4 = .ok (.ifCond .eq 15, 3) := by decide +kernel
theorem d12_fill_7 : decode c12_fill 7 = .ok (.iload_n 1, 1) := by decide +kernel
theorem d12_fill_8 : decode c12_fill 8 = .ok (.i2l, 1) := by decide +kernel
theorem d12_fill_9 : decode c12_fill 9 = .ok (.lconst 1, 1) := by decide +kernel
theorem d12_fill_10 : decode c12_fill 10 = .ok (.ldc2_w 366, 3) := by decide +kernel
theorem d12_fill_13 : decode c12_fill 13 = .ok (.invokestatic 127, 3) := by decide +kernel
theorem d12_fill_16 : decode c12_fill 16 = .ok (.ifCond .ne 5, 3) := by decide +kernel
theorem d12_fill_19 : decode c12_fill 19 = .ok (.iconst (-1), 1) := by decide +kernel
theorem d12_fill_20 : decode c12_fill 20 = .ok (.ireturn, 1) := by decide +kernel
theorem d12_fill_21 : decode c12_fill 21 = .ok (.aload_n 0, 1) := by decide +kernel
theorem d12_fill_22 : decode c12_fill 22 = .ok (.invokevirtual 361, 3) := by decide +kernel
theorem d12_fill_25 : decode c12_fill 25 = .ok (.aload_n 0, 1) := by decide +kernel
theorem d12_fill_26 : decode c12_fill 26 = .ok (.getfield 39, 3) := by decide +kernel
theorem d12_fill_29 : decode c12_fill 29 = .ok (.bipush 11, 2) := by decide +kernel
theorem d12_fill_31 : decode c12_fill 31 = .ok (.iaload, 1) := by decide +kernel
theorem d12_fill_32 : decode c12_fill 32 = .ok (.iload_n 1, 1) := by decide +kernel
theorem d12_fill_33 : decode c12_fill 33 = .ok (.iadd, 1) := by decide +kernel
theorem d12_fill_34 : decode c12_fill 34 = .ok (.istore_n 2, 1) := by decide +kernel
theorem d12_fill_35 : decode c12_fill 35 = .ok (.aload_n 0, 1) := by decide +kernel
theorem d12_fill_36 : decode c12_fill 36 = .ok (.getfield 39, 3) := by decide +kernel
theorem d12_fill_39 : decode c12_fill 39 = .ok (.bipush 11, 2) := by decide +kernel
theorem d12_fill_41 : decode c12_fill 41 = .ok (.iload_n 2, 1) := by decide +kernel
theorem d12_fill_42 : decode c12_fill 42 = .ok (.sipush 999, 3) := by decide +kernel
theorem d12_fill_45 : decode c12_fill 45 = .ok (.if_icmp .le 9, 3) := by decide +kernel
theorem d12_fill_48 : decode c12_fill 48 = .ok (.sipush 999, 3) := by decide +kernel
theorem d12_fill_51 : decode c12_fill 51 = .ok (.goto 4, 3) := by decide +kernel
theorem d12_fill_54 : decode c12_fill 54 = .ok (.iload_n 2, 1) := by decide +kernel
theorem d12_fill_55 : decode c12_fill 55 = .ok (.iastore, 1) := by decide +kernel
theorem d12_fill_56 : decode c12_fill 56 = .ok (.aload_n 0, 1) := by decide +kernel
theorem d12_fill_57 : decode c12_fill 57 = .ok (.getfield 39, 3) := by decide +kernel
theorem d12_fill_60 : decode c12_fill 60 = .ok (.bipush 11, 2) := by decide +kernel
theorem d12_fill_62 : decode c12_fill 62 = .ok (.iaload, 1) := by decide +kernel
theorem d12_fill_63 : decode c12_fill 63 = .ok (.ireturn, 1) := by decide +kernel
abbrev c12_keeps : ByteArray := prog_14_method_75_code
def y12_keeps : MethodName := ⟨RX12, "keeps", "()V"⟩
theorem d12_keeps_0 : decode c12_keeps 0 = .ok (.iconst 0, 1) := by decide +kernel
theorem d12_keeps_1 : decode c12_keeps 1 = .ok (.istore_n 1, 1) := by decide +kernel
theorem d12_keeps_2 : decode c12_keeps 2 = .ok (.iload_n 1, 1) := by decide +kernel
theorem d12_keeps_3 : decode c12_keeps 3 = .ok (.bipush 33, 2) := by decide +kernel
theorem d12_keeps_5 : decode c12_keeps 5 = .ok (.if_icmp .ge 24, 3) := by decide +kernel
theorem d12_keeps_8 : decode c12_keeps 8 = .ok (.aload_n 0, 1) := by decide +kernel
theorem d12_keeps_9 : decode c12_keeps 9 = .ok (.getfield 52, 3) := by decide +kernel
theorem d12_keeps_12 : decode c12_keeps 12 = .ok (.iload_n 1, 1) := by decide +kernel
theorem d12_keeps_13 : decode c12_keeps 13 = .ok (.aload_n 0, 1) := by decide +kernel
theorem d12_keeps_14 : decode c12_keeps 14 = .ok (.getfield 39, 3) := by decide +kernel
theorem d12_keeps_17 : decode c12_keeps 17 = .ok (.bipush 10, 2) := by decide +kernel
theorem d12_keeps_19 : decode c12_keeps 19 = .ok (.iload_n 1, 1) := by decide +kernel
theorem d12_keeps_20 : decode c12_keeps 20 = .ok (.iadd, 1) := by decide +kernel
theorem d12_keeps_21 : decode c12_keeps 21 = .ok (.iaload, 1) := by decide +kernel
theorem d12_keeps_22 : decode c12_keeps 22 = .ok (.iastore, 1) := by decide +kernel
theorem d12_keeps_23 : decode c12_keeps 23 = .ok (.iinc 1 1, 3) := by decide +kernel
theorem d12_keeps_26 : decode c12_keeps 26 = .ok (.goto (-24), 3) := by decide +kernel
theorem d12_keeps_29 : decode c12_keeps 29 = .ok (.return_, 1) := by decide +kernel
abbrev c12_laysBack : ByteArray := prog_14_method_76_code
def y12_laysBack : MethodName := ⟨RX12, "laysBack", "()V"⟩
theorem d12_laysBack_0 : decode c12_laysBack 0 = .ok (.iconst 0, 1) := by decide +kernel
theorem d12_laysBack_1 : decode c12_laysBack 1 = .ok (.istore_n 1, 1) := by decide +kernel
theorem d12_laysBack_2 : decode c12_laysBack 2 = .ok (.iload_n 1, 1) := by decide +kernel
theorem d12_laysBack_3 : decode c12_laysBack 3 = .ok (.bipush 33, 2) := by decide +kernel
theorem d12_laysBack_5 : decode c12_laysBack 5 = .ok (.if_icmp .ge 24, 3) := by decide +kernel
theorem d12_laysBack_8 : decode c12_laysBack 8 = .ok (.aload_n 0, 1) := by decide +kernel
theorem d12_laysBack_9 : decode c12_laysBack 9 = .ok (.getfield 39, 3) := by decide +kernel
theorem d12_laysBack_12 : decode c12_laysBack 12 = .ok (.bipush 10, 2) := by decide +kernel
theorem d12_laysBack_14 : decode c12_laysBack 14 = .ok (.iload_n 1, 1) := by decide +kernel
theorem d12_laysBack_15 : decode c12_laysBack 15 = .ok (.iadd, 1) := by decide +kernel
theorem d12_laysBack_16 : decode c12_laysBack 16 = .ok (.aload_n 0, 1) := by decide +kernel
theorem d12_laysBack_17 : decode c12_laysBack 17 = .ok (.getfield 52, 3) := by decide +kernel
theorem d12_laysBack_20 : decode c12_laysBack 20 = .ok (.iload_n 1, 1) := by decide +kernel
theorem d12_laysBack_21 : decode c12_laysBack 21 = .ok (.iaload, 1) := by decide +kernel
theorem d12_laysBack_22 : decode c12_laysBack 22 = .ok (.iastore, 1) := by decide +kernel
theorem d12_laysBack_23 : decode c12_laysBack 23 = .ok (.iinc 1 1, 3) := by decide +kernel
theorem d12_laysBack_26 : decode c12_laysBack 26 = .ok (.goto (-24), 3) := by decide +kernel
theorem d12_laysBack_29 : decode c12_laysBack 29 = .ok (.return_, 1) := by decide +kernel
abbrev c12_ahead : ByteArray := prog_14_method_77_code
def y12_ahead : MethodName := ⟨RX12, "ahead", "(III)I"⟩
theorem d12_ahead_0 : decode c12_ahead 0 = .ok (.aload_n 0, 1) := by decide +kernel
theorem d12_ahead_1 : decode c12_ahead 1 = .ok (.invokevirtual 293, 3) := by decide +kernel
theorem d12_ahead_4 : decode c12_ahead 4 = .ok (.ifCond .eq 39, 3) := by decide +kernel
theorem d12_ahead_7 : decode c12_ahead 7 = .ok (.iload_n 2, 1) := by decide +kernel
theorem d12_ahead_8 : decode c12_ahead 8 = .ok (.i2l, 1) := by decide +kernel
theorem d12_ahead_9 : decode c12_ahead 9 = .ok (.lconst 0, 1) := by decide +kernel
theorem d12_ahead_10 : decode c12_ahead 10 = .ok (.ldc2_w 368, 3) := by decide +kernel
theorem d12_ahead_13 : decode c12_ahead 13 = .ok (.invokestatic 127, 3) := by decide +kernel
theorem d12_ahead_16 : decode c12_ahead 16 = .ok (.ifCond .eq 27, 3) := by decide +kernel
theorem d12_ahead_19 : decode c12_ahead 19 = .ok (.iload_n 3, 1) := by decide +kernel
theorem d12_ahead_20 : decode c12_ahead 20 = .ok (.i2l, 1) := by decide +kernel
theorem d12_ahead_21 : decode c12_ahead 21 = .ok (.lconst 0, 1) := by decide +kernel
theorem d12_ahead_22 : decode c12_ahead 22 = .ok (.ldc2_w 370, 3) := by decide +kernel
theorem d12_ahead_25 : decode c12_ahead 25 = .ok (.invokestatic 127, 3) := by decide +kernel
theorem d12_ahead_28 : decode c12_ahead 28 = .ok (.ifCond .eq 15, 3) := by decide +kernel
theorem d12_ahead_31 : decode c12_ahead 31 = .ok (.iload_n 3, 1) := by decide +kernel
theorem d12_ahead_32 : decode c12_ahead 32 = .ok (.ifCond .ne 13, 3) := by decide +kernel
theorem d12_ahead_35 : decode c12_ahead 35 = .ok (.aload_n 0, 1) := by decide +kernel
theorem d12_ahead_36 : decode c12_ahead 36 = .ok (.iload_n 1, 1) := by decide +kernel
theorem d12_ahead_37 : decode c12_ahead 37 = .ok (.invokevirtual 299, 3) := by decide +kernel
theorem d12_ahead_40 : decode c12_ahead 40 = .ok (.ifCond .ne 5, 3) := by decide +kernel
theorem d12_ahead_43 : decode c12_ahead 43 = .ok (.iconst (-1), 1) := by decide +kernel
theorem d12_ahead_44 : decode c12_ahead 44 = .ok (.ireturn, 1) := by decide +kernel
theorem d12_ahead_45 : decode c12_ahead 45 = .ok (.aload_n 0, 1) := by decide +kernel
theorem d12_ahead_46 : decode c12_ahead 46 = .ok (.invokevirtual 372, 3) := by decide +kernel
theorem d12_ahead_49 : decode c12_ahead 49 = .ok (.aload_n 0, 1) := by decide +kernel
theorem d12_ahead_50 : decode c12_ahead 50 = .ok (.iload_n 2, 1) := by decide +kernel
theorem d12_ahead_51 : decode c12_ahead 51 = .ok (.invokevirtual 375, 3) := by decide +kernel
theorem d12_ahead_54 : decode c12_ahead 54 = .ok (.iload_n 3, 1) := by decide +kernel
theorem d12_ahead_55 : decode c12_ahead 55 = .ok (.ifCond .ne 15, 3) := by decide +kernel
theorem d12_ahead_58 : decode c12_ahead 58 = .ok (.aload_n 0, 1) := by decide +kernel
theorem d12_ahead_59 : decode c12_ahead 59 = .ok (.getfield 39, 3) := by decide +kernel
theorem d12_ahead_62 : decode c12_ahead 62 = .ok (.bipush 13, 2) := by decide +kernel
theorem d12_ahead_64 : decode c12_ahead 64 = .ok (.iload_n 1, 1) := by decide +kernel
theorem d12_ahead_65 : decode c12_ahead 65 = .ok (.iadd, 1) := by decide +kernel
theorem d12_ahead_66 : decode c12_ahead 66 = .ok (.iaload, 1) := by decide +kernel
theorem d12_ahead_67 : decode c12_ahead 67 = .ok (.goto 37, 3) := by decide +kernel
theorem d12_ahead_70 : decode c12_ahead 70 = .ok (.iload_n 3, 1) := by decide +kernel
theorem d12_ahead_71 : decode c12_ahead 71 = .ok (.iconst 1, 1) := by decide +kernel
theorem d12_ahead_72 : decode c12_ahead 72 = .ok (.if_icmp .ne 10, 3) := by decide +kernel
theorem d12_ahead_75 : decode c12_ahead 75 = .ok (.aload_n 0, 1) := by decide +kernel
theorem d12_ahead_76 : decode c12_ahead 76 = .ok (.invokevirtual 302, 3) := by decide +kernel
theorem d12_ahead_79 : decode c12_ahead 79 = .ok (.goto 25, 3) := by decide +kernel
theorem d12_ahead_82 : decode c12_ahead 82 = .ok (.iload_n 3, 1) := by decide +kernel
theorem d12_ahead_83 : decode c12_ahead 83 = .ok (.iconst 2, 1) := by decide +kernel
theorem d12_ahead_84 : decode c12_ahead 84 = .ok (.if_icmp .ne 13, 3) := by decide +kernel
theorem d12_ahead_87 : decode c12_ahead 87 = .ok (.aload_n 0, 1) := by decide +kernel
theorem d12_ahead_88 : decode c12_ahead 88 = .ok (.getfield 39, 3) := by decide +kernel
theorem d12_ahead_91 : decode c12_ahead 91 = .ok (.bipush 11, 2) := by decide +kernel
theorem d12_ahead_93 : decode c12_ahead 93 = .ok (.iaload, 1) := by decide +kernel
theorem d12_ahead_94 : decode c12_ahead 94 = .ok (.goto 10, 3) := by decide +kernel
theorem d12_ahead_97 : decode c12_ahead 97 = .ok (.aload_n 0, 1) := by decide +kernel
theorem d12_ahead_98 : decode c12_ahead 98 = .ok (.getfield 39, 3) := by decide +kernel
theorem d12_ahead_101 : decode c12_ahead 101 = .ok (.bipush 12, 2) := by decide +kernel
theorem d12_ahead_103 : decode c12_ahead 103 = .ok (.iaload, 1) := by decide +kernel
theorem d12_ahead_104 : decode c12_ahead 104 = .ok (.istore 4, 2) := by decide +kernel
theorem d12_ahead_106 : decode c12_ahead 106 = .ok (.aload_n 0, 1) := by decide +kernel
theorem d12_ahead_107 : decode c12_ahead 107 = .ok (.invokevirtual 378, 3) := by decide +kernel
theorem d12_ahead_110 : decode c12_ahead 110 = .ok (.iload 4, 2) := by decide +kernel
theorem d12_ahead_112 : decode c12_ahead 112 = .ok (.ireturn, 1) := by decide +kernel
abbrev c12_rightIn : ByteArray := prog_14_method_78_code
def y12_rightIn : MethodName := ⟨RX12, "rightIn", "(I)I"⟩
theorem d12_rightIn_0 : decode c12_rightIn 0 = .ok (.bipush (-2), 2) := by decide +kernel
theorem d12_rightIn_2 : decode c12_rightIn 2 = .ok (.istore_n 2, 1) := by decide +kernel
theorem d12_rightIn_3 : decode c12_rightIn 3 = .ok (.aload_n 0, 1) := by decide +kernel
theorem d12_rightIn_4 : decode c12_rightIn 4 = .ok (.invokevirtual 372, 3) := by decide +kernel
theorem d12_rightIn_7 : decode c12_rightIn 7 = .ok (.iconst 0, 1) := by decide +kernel
theorem d12_rightIn_8 : decode c12_rightIn 8 = .ok (.istore_n 3, 1) := by decide +kernel
theorem d12_rightIn_9 : decode c12_rightIn 9 = .ok (.iload_n 3, 1) := by decide +kernel
theorem d12_rightIn_10 : decode c12_rightIn 10 = .ok (.sipush 200, 3) := by decide +kernel
theorem d12_rightIn_13 : decode c12_rightIn 13 = .ok (.if_icmp .ge 37, 3) := by decide +kernel
theorem d12_rightIn_16 : decode c12_rightIn 16 = .ok (.iload_n 2, 1) := by decide +kernel
theorem d12_rightIn_17 : decode c12_rightIn 17 = .ok (.ifCond .ge 33, 3) := by decide +kernel
theorem d12_rightIn_20 : decode c12_rightIn 20 = .ok (.aload_n 0, 1) := by decide +kernel
theorem d12_rightIn_21 : decode c12_rightIn 21 = .ok (.invokevirtual 358, 3) := by decide +kernel
theorem d12_rightIn_24 : decode c12_rightIn 24 = .ok (.pop, 1) := by decide +kernel
theorem d12_rightIn_25 : decode c12_rightIn 25 = .ok (.aload_n 0, 1) := by decide +kernel
theorem d12_rightIn_26 : decode c12_rightIn 26 = .ok (.invokevirtual 302, 3) := by decide +kernel
theorem d12_rightIn_29 : decode c12_rightIn 29 = .ok (.iload_n 1, 1) := by decide +kernel
theorem d12_rightIn_30 : decode c12_rightIn 30 = .ok (.iand, 1) := by decide +kernel
theorem d12_rightIn_31 : decode c12_rightIn 31 = .ok (.ifCond .ne 13, 3) := by decide +kernel
theorem d12_rightIn_34 : decode c12_rightIn 34 = .ok (.aload_n 0, 1) := by decide +kernel
theorem d12_rightIn_35 : decode c12_rightIn 35 = .ok (.getfield 39, 3) := by decide +kernel
theorem d12_rightIn_38 : decode c12_rightIn 38 = .ok (.bipush 10, 2) := by decide +kernel
theorem d12_rightIn_40 : decode c12_rightIn 40 = .ok (.iaload, 1) := by decide +kernel
theorem d12_rightIn_41 : decode c12_rightIn 41 = .ok (.iconst 1, 1) := by decide +kernel
theorem d12_rightIn_42 : decode c12_rightIn 42 = .ok (.isub, 1) := by decide +kernel
theorem d12_rightIn_43 : decode c12_rightIn 43 = .ok (.istore_n 2, 1) := by decide +kernel
theorem d12_rightIn_44 : decode c12_rightIn 44 = .ok (.iinc 3 1, 3) := by decide +kernel
theorem d12_rightIn_47 : decode c12_rightIn 47 = .ok (.goto (-38), 3) := by decide +kernel
theorem d12_rightIn_50 : decode c12_rightIn 50 = .ok (.aload_n 0, 1) := by decide +kernel
theorem d12_rightIn_51 : decode c12_rightIn 51 = .ok (.invokevirtual 378, 3) := by decide +kernel
theorem d12_rightIn_54 : decode c12_rightIn 54 = .ok (.iload_n 2, 1) := by decide +kernel
theorem d12_rightIn_55 : decode c12_rightIn 55 = .ok (.ireturn, 1) := by decide +kernel
abbrev c12_allRight : ByteArray := prog_14_method_79_code
def y12_allRight : MethodName := ⟨RX12, "allRight", "()I"⟩
theorem d12_allRight_0 : decode c12_allRight 0 = .ok (.aload_n 0, 1) := by decide +kernel
theorem d12_allRight_1 : decode c12_allRight 1 = .ok (.invokevirtual 293, 3) := by decide +kernel
theorem d12_allRight_4 : decode c12_allRight 4 = .ok (.ifCond .eq 13, 3) := by decide +kernel
theorem d12_allRight_7 : decode c12_allRight 7 = .ok (.aload_n 0, 1) := by decide +kernel
theorem d12_allRight_8 : decode c12_allRight 8 = .ok (.sipush 1023, 3) := by decide +kernel
theorem d12_allRight_11 : decode c12_allRight 11 = .ok (.invokevirtual 381, 3) := by decide +kernel
theorem d12_allRight_14 : decode c12_allRight 14 = .ok (.goto 4, 3) := by decide +kernel
theorem d12_allRight_17 : decode c12_allRight 17 = .ok (.iconst (-1), 1) := by decide +kernel
theorem d12_allRight_18 : decode c12_allRight 18 = .ok (.ireturn, 1) := by decide +kernel
abbrev c12_firstRight : ByteArray := prog_14_method_80_code
def y12_firstRight : MethodName := ⟨RX12, "firstRight", "(I)I"⟩
theorem d12_firstRight_0 : decode c12_firstRight 0 = .ok (.aload_n 0, 1) := by decide +kernel
theorem d12_firstRight_1 : decode c12_firstRight 1 = .ok (.iload_n 1, 1) := by decide +kernel
theorem d12_firstRight_2 : decode c12_firstRight 2 = .ok (.invokevirtual 299, 3) := by decide +kernel
theorem d12_firstRight_5 : decode c12_firstRight 5 = .ok (.ifCond .eq 13, 3) := by decide +kernel
theorem d12_firstRight_8 : decode c12_firstRight 8 = .ok (.aload_n 0, 1) := by decide +kernel
theorem d12_firstRight_9 : decode c12_firstRight 9 = .ok (.iconst 1, 1) := by decide +kernel
theorem d12_firstRight_10 : decode c12_firstRight 10 = .ok (.iload_n 1, 1) := by decide +kernel
theorem d12_firstRight_11 : decode c12_firstRight 11 = .ok (.ishl, 1) := by decide +kernel
theorem d12_firstRight_12 : decode c12_firstRight 12 = .ok (.invokevirtual 381, 3) := by decide +kernel
theorem d12_firstRight_15 : decode c12_firstRight 15 = .ok (.goto 4, 3) := by decide +kernel
theorem d12_firstRight_18 : decode c12_firstRight 18 = .ok (.iconst (-1), 1) := by decide +kernel
theorem d12_firstRight_19 : decode c12_firstRight 19 = .ok (.ireturn, 1) := by decide +kernel
abbrev c12_leastOf : ByteArray := prog_14_method_81_code
def y12_leastOf : MethodName := ⟨RX12, "leastOf", "(I)I"⟩
theorem d12_leastOf_0 : decode c12_leastOf 0 = .ok (.iconst 0, 1) := by decide +kernel
theorem d12_leastOf_1 : decode c12_leastOf 1 = .ok (.istore_n 1, 1) := by decide +kernel
theorem d12_leastOf_2 : decode c12_leastOf 2 = .ok (.iload_n 0, 1) := by decide +kernel
theorem d12_leastOf_3 : decode c12_leastOf 3 = .ok (.iload_n 1, 1) := by decide +kernel
theorem d12_leastOf_4 : decode c12_leastOf 4 = .ok (.invokestatic 318, 3) := by decide +kernel
theorem d12_leastOf_7 : decode c12_leastOf 7 = .ok (.ifCond .ne 9, 3) := by decide +kernel
theorem d12_leastOf_10 : decode c12_leastOf 10 = .ok (.iinc 1 1, 3) := by decide +kernel
theorem d12_leastOf_13 : decode c12_leastOf 13 = .ok (.goto (-11), 3) := by decide +kernel
theorem d12_leastOf_16 : decode c12_leastOf 16 = .ok (.iload_n 1, 1) := by decide +kernel
theorem d12_leastOf_17 : decode c12_leastOf 17 = .ok (.ireturn, 1) := by decide +kernel
abbrev c12_unpaid : ByteArray := prog_14_method_82_code
def y12_unpaid : MethodName := ⟨RX12, "unpaid", "(I)I"⟩
theorem d12_unpaid_0 : decode c12_unpaid 0 = .ok (.aload_n 0, 1) := by decide +kernel
theorem d12_unpaid_1 : decode c12_unpaid 1 = .ok (.invokevirtual 293, 3) := by decide +kernel
theorem d12_unpaid_4 : decode c12_unpaid 4 = .ok (.ifCond .eq 13, 3) := by decide +kernel
theorem d12_unpaid_7 : decode c12_unpaid 7 = .ok (.iload_n 1, 1) := by decide +kernel
theorem d12_unpaid_8 : decode c12_unpaid 8 = .ok (.i2l, 1) := by decide +kernel
theorem d12_unpaid_9 : decode c12_unpaid 9 = .ok (.lconst 0, 1) := by decide +kernel
theorem d12_unpaid_10 : decode c12_unpaid 10 = .ok (.lconst 1, 1) := by decide +kernel
theorem d12_unpaid_11 : decode c12_unpaid 11 = .ok (.invokestatic 127, 3) := by decide +kernel
theorem d12_unpaid_14 : decode c12_unpaid 14 = .ok (.ifCond .ne 5, 3) := by decide +kernel
theorem d12_unpaid_17 : decode c12_unpaid 17 = .ok (.iconst (-1), 1) := by decide +kernel
theorem d12_unpaid_18 : decode c12_unpaid 18 = .ok (.ireturn, 1) := by decide +kernel
theorem d12_unpaid_19 : decode c12_unpaid 19 = .ok (.bipush (-2), 2) := by decide +kernel
theorem d12_unpaid_21 : decode c12_unpaid 21 = .ok (.istore_n 2, 1) := by decide +kernel
theorem d12_unpaid_22 : decode c12_unpaid 22 = .ok (.aload_n 0, 1) := by decide +kernel
theorem d12_unpaid_23 : decode c12_unpaid 23 = .ok (.invokevirtual 372, 3) := by decide +kernel
theorem d12_unpaid_26 : decode c12_unpaid 26 = .ok (.iconst 0, 1) := by decide +kernel
theorem d12_unpaid_27 : decode c12_unpaid 27 = .ok (.istore_n 3, 1) := by decide +kernel
theorem d12_unpaid_28 : decode c12_unpaid 28 = .ok (.iload_n 3, 1) := by decide +kernel
theorem d12_unpaid_29 : decode c12_unpaid 29 = .ok (.sipush 200, 3) := by decide +kernel
theorem d12_unpaid_32 : decode c12_unpaid 32 = .ok (.if_icmp .ge 49, 3) := by decide +kernel
theorem d12_unpaid_35 : decode c12_unpaid 35 = .ok (.iload_n 2, 1) := by decide +kernel
theorem d12_unpaid_36 : decode c12_unpaid 36 = .ok (.ifCond .ge 45, 3) := by decide +kernel
theorem d12_unpaid_39 : decode c12_unpaid 39 = .ok (.aload_n 0, 1) := by decide +kernel
theorem d12_unpaid_40 : decode c12_unpaid 40 = .ok (.invokevirtual 358, 3) := by decide +kernel
theorem d12_unpaid_43 : decode c12_unpaid 43 = .ok (.pop, 1) := by decide +kernel
theorem d12_unpaid_44 : decode c12_unpaid 44 = .ok (.aload_n 0, 1) := by decide +kernel
theorem d12_unpaid_45 : decode c12_unpaid 45 = .ok (.getfield 340, 3) := by decide +kernel
theorem d12_unpaid_48 : decode c12_unpaid 48 = .ok (.ifCond .eq 27, 3) := by decide +kernel
theorem d12_unpaid_51 : decode c12_unpaid 51 = .ok (.iload_n 1, 1) := by decide +kernel
theorem d12_unpaid_52 : decode c12_unpaid 52 = .ok (.ifCond .ne 15, 3) := by decide +kernel
theorem d12_unpaid_55 : decode c12_unpaid 55 = .ok (.aload_n 0, 1) := by decide +kernel
theorem d12_unpaid_56 : decode c12_unpaid 56 = .ok (.getfield 39, 3) := by decide +kernel
theorem d12_unpaid_59 : decode c12_unpaid 59 = .ok (.bipush 10, 2) := by decide +kernel
theorem d12_unpaid_61 : decode c12_unpaid 61 = .ok (.iaload, 1) := by decide +kernel
theorem d12_unpaid_62 : decode c12_unpaid 62 = .ok (.iconst 1, 1) := by decide +kernel
theorem d12_unpaid_63 : decode c12_unpaid 63 = .ok (.isub, 1) := by decide +kernel
theorem d12_unpaid_64 : decode c12_unpaid 64 = .ok (.goto 10, 3) := by decide +kernel
theorem d12_unpaid_67 : decode c12_unpaid 67 = .ok (.aload_n 0, 1) := by decide +kernel
theorem d12_unpaid_68 : decode c12_unpaid 68 = .ok (.getfield 340, 3) := by decide +kernel
theorem d12_unpaid_71 : decode c12_unpaid 71 = .ok (.invokestatic 384, 3) := by decide +kernel
theorem d12_unpaid_74 : decode c12_unpaid 74 = .ok (.istore_n 2, 1) := by decide +kernel
theorem d12_unpaid_75 : decode c12_unpaid 75 = .ok (.iinc 3 1, 3) := by decide +kernel
theorem d12_unpaid_78 : decode c12_unpaid 78 = .ok (.goto (-50), 3) := by decide +kernel
theorem d12_unpaid_81 : decode c12_unpaid 81 = .ok (.aload_n 0, 1) := by decide +kernel
theorem d12_unpaid_82 : decode c12_unpaid 82 = .ok (.invokevirtual 378, 3) := by decide +kernel
theorem d12_unpaid_85 : decode c12_unpaid 85 = .ok (.iload_n 2, 1) := by decide +kernel
theorem d12_unpaid_86 : decode c12_unpaid 86 = .ok (.ireturn, 1) := by decide +kernel
abbrev c12_nextRow : ByteArray := prog_14_method_83_code
def y12_nextRow : MethodName := ⟨RX12, "nextRow", "(I)Z"⟩
theorem d12_nextRow_0 : decode c12_nextRow 0 = .ok (.iload_n 1, 1) := by decide +kernel
theorem d12_nextRow_1 : decode c12_nextRow 1 = .ok (.iconst 1, 1) := by decide +kernel
theorem d12_nextRow_2 : decode c12_nextRow 2 = .ok (.isub, 1) := by decide +kernel
theorem d12_nextRow_3 : decode c12_nextRow 3 = .ok (.istore_n 2, 1) := by decide +kernel
theorem d12_nextRow_4 : decode c12_nextRow 4 = .ok (.iload_n 2, 1) := by decide +kernel
theorem d12_nextRow_5 : decode c12_nextRow 5 = .ok (.ifCond .lt 33, 3) := by decide +kernel
theorem d12_nextRow_8 : decode c12_nextRow 8 = .ok (.aload_n 0, 1) := by decide +kernel
theorem d12_nextRow_9 : decode c12_nextRow 9 = .ok (.getfield 55, 3) := by decide +kernel
theorem d12_nextRow_12 : decode c12_nextRow 12 = .ok (.iload_n 2, 1) := by decide +kernel
theorem d12_nextRow_13 : decode c12_nextRow 13 = .ok (.iaload, 1) := by decide +kernel
theorem d12_nextRow_14 : decode c12_nextRow 14 = .ok (.aload_n 0, 1) := by decide +kernel
theorem d12_nextRow_15 : decode c12_nextRow 15 = .ok (.getfield 39, 3) := by decide +kernel
theorem d12_nextRow_18 : decode c12_nextRow 18 = .ok (.iconst 3, 1) := by decide +kernel
theorem d12_nextRow_19 : decode c12_nextRow 19 = .ok (.iaload, 1) := by decide +kernel
theorem d12_nextRow_20 : decode c12_nextRow 20 = .ok (.iconst 1, 1) := by decide +kernel
theorem d12_nextRow_21 : decode c12_nextRow 21 = .ok (.isub, 1) := by decide +kernel
theorem d12_nextRow_22 : decode c12_nextRow 22 = .ok (.if_icmp .ne 16, 3) := by decide +kernel
theorem d12_nextRow_25 : decode c12_nextRow 25 = .ok (.aload_n 0, 1) := by decide +kernel
theorem d12_nextRow_26 : decode c12_nextRow 26 = .ok (.getfield 55, 3) := by decide +kernel
theorem d12_nextRow_29 : decode c12_nextRow 29 = .ok (.iload_n 2, 1) := by decide +kernel
theorem d12_nextRow_30 : decode c12_nextRow 30 = .ok (.iconst (-1), 1) := by decide +kernel
theorem d12_nextRow_31 : decode c12_nextRow 31 = .ok (.iastore, 1) := by decide +kernel
theorem d12_nextRow_32 : decode c12_nextRow 32 = .ok (.iinc 2 (-1), 3) := by decide +kernel
theorem d12_nextRow_35 : decode c12_nextRow 35 = .ok (.goto (-31), 3) := by decide +kernel
theorem d12_nextRow_38 : decode c12_nextRow 38 = .ok (.iload_n 2, 1) := by decide +kernel
theorem d12_nextRow_39 : decode c12_nextRow 39 = .ok (.ifCond .ge 5, 3) := by decide +kernel
theorem d12_nextRow_42 : decode c12_nextRow 42 = .ok (.iconst 0, 1) := by decide +kernel
theorem d12_nextRow_43 : decode c12_nextRow 43 = .ok (.ireturn, 1) := by decide +kernel
theorem d12_nextRow_44 : decode c12_nextRow 44 = .ok (.aload_n 0, 1) := by decide +kernel
theorem d12_nextRow_45 : decode c12_nextRow 45 = .ok (.getfield 55, 3) := by decide +kernel
theorem d12_nextRow_48 : decode c12_nextRow 48 = .ok (.iload_n 2, 1) := by decide +kernel
theorem d12_nextRow_49 : decode c12_nextRow 49 = .ok (.dup2, 1) := by decide +kernel
theorem d12_nextRow_50 : decode c12_nextRow 50 = .ok (.iaload, 1) := by decide +kernel
theorem d12_nextRow_51 : decode c12_nextRow 51 = .ok (.iconst 1, 1) := by decide +kernel
theorem d12_nextRow_52 : decode c12_nextRow 52 = .ok (.iadd, 1) := by decide +kernel
theorem d12_nextRow_53 : decode c12_nextRow 53 = .ok (.iastore, 1) := by decide +kernel
theorem d12_nextRow_54 : decode c12_nextRow 54 = .ok (.iconst 1, 1) := by decide +kernel
theorem d12_nextRow_55 : decode c12_nextRow 55 = .ok (.ireturn, 1) := by decide +kernel
abbrev c12_wrongByRow : ByteArray := prog_14_method_84_code
def y12_wrongByRow : MethodName := ⟨RX12, "wrongByRow", "(I)I"⟩
theorem d12_wrongByRow_0 : decode c12_wrongByRow 0 = .ok (.iconst 1, 1) := by decide +kernel
theorem d12_wrongByRow_1 : decode c12_wrongByRow 1 = .ok (.istore_n 2, 1) := by decide +kernel
theorem d12_wrongByRow_2 : decode c12_wrongByRow 2 = .ok (.iconst 0, 1) := by decide +kernel
theorem d12_wrongByRow_3 : decode c12_wrongByRow 3 = .ok (.istore_n 3, 1) := by decide +kernel
theorem d12_wrongByRow_4 : decode c12_wrongByRow 4 = .ok (.iload_n 3, 1) := by decide +kernel
theorem d12_wrongByRow_5 : decode c12_wrongByRow 5 = .ok (.iload_n 1, 1) := by decide +kernel
theorem d12_wrongByRow_6 : decode c12_wrongByRow 6 = .ok (.if_icmp .ge 59, 3) := by decide +kernel
theorem d12_wrongByRow_9 : decode c12_wrongByRow 9 = .ok (.iload_n 2, 1) := by decide +kernel
theorem d12_wrongByRow_10 : decode c12_wrongByRow 10 = .ok (.ifCond .eq 55, 3) := by decide +kernel
theorem d12_wrongByRow_13 : decode c12_wrongByRow 13 = .ok (.aload_n 0, 1) := by decide +kernel
theorem d12_wrongByRow_14 : decode c12_wrongByRow 14 = .ok (.getfield 55, 3) := by decide +kernel
theorem d12_wrongByRow_17 : decode c12_wrongByRow 17 = .ok (.iload_n 3, 1) := by decide +kernel
theorem d12_wrongByRow_18 : decode c12_wrongByRow 18 = .ok (.iaload, 1) := by decide +kernel
theorem d12_wrongByRow_19 : decode c12_wrongByRow 19 = .ok (.ifCond .lt 16, 3) := by decide +kernel
theorem d12_wrongByRow_22 : decode c12_wrongByRow 22 = .ok (.aload_n 0, 1) := by decide +kernel
theorem d12_wrongByRow_23 : decode c12_wrongByRow 23 = .ok (.aload_n 0, 1) := by decide +kernel
theorem d12_wrongByRow_24 : decode c12_wrongByRow 24 = .ok (.getfield 55, 3) := by decide +kernel
theorem d12_wrongByRow_27 : decode c12_wrongByRow 27 = .ok (.iload_n 3, 1) := by decide +kernel
theorem d12_wrongByRow_28 : decode c12_wrongByRow 28 = .ok (.iaload, 1) := by decide +kernel
theorem d12_wrongByRow_29 : decode c12_wrongByRow 29 = .ok (.invokevirtual 305, 3) := by decide +kernel
theorem d12_wrongByRow_32 : decode c12_wrongByRow 32 = .ok (.ifCond .eq 7, 3) := by decide +kernel
theorem d12_wrongByRow_35 : decode c12_wrongByRow 35 = .ok (.iconst 1, 1) := by decide +kernel
theorem d12_wrongByRow_36 : decode c12_wrongByRow 36 = .ok (.goto 4, 3) := by decide +kernel
theorem d12_wrongByRow_39 : decode c12_wrongByRow 39 = .ok (.iconst 0, 1) := by decide +kernel
theorem d12_wrongByRow_40 : decode c12_wrongByRow 40 = .ok (.istore_n 2, 1) := by decide +kernel
theorem d12_wrongByRow_41 : decode c12_wrongByRow 41 = .ok (.aload_n 0, 1) := by decide +kernel
theorem d12_wrongByRow_42 : decode c12_wrongByRow 42 = .ok (.iload_n 2, 1) := by decide +kernel
theorem d12_wrongByRow_43 : decode c12_wrongByRow 43 = .ok (.ifCond .eq 12, 3) := by decide +kernel
theorem d12_wrongByRow_46 : decode c12_wrongByRow 46 = .ok (.aload_n 0, 1) := by decide +kernel
theorem d12_wrongByRow_47 : decode c12_wrongByRow 47 = .ok (.getfield 55, 3) := by decide +kernel
theorem d12_wrongByRow_50 : decode c12_wrongByRow 50 = .ok (.iload_n 3, 1) := by decide +kernel
theorem d12_wrongByRow_51 : decode c12_wrongByRow 51 = .ok (.iaload, 1) := by decide +kernel
theorem d12_wrongByRow_52 : decode c12_wrongByRow 52 = .ok (.goto 4, 3) := by decide +kernel
theorem d12_wrongByRow_55 : decode c12_wrongByRow 55 = .ok (.iconst (-1), 1) := by decide +kernel
theorem d12_wrongByRow_56 : decode c12_wrongByRow 56 = .ok (.invokevirtual 355, 3) := by decide +kernel
theorem d12_wrongByRow_59 : decode c12_wrongByRow 59 = .ok (.iinc 3 1, 3) := by decide +kernel
theorem d12_wrongByRow_62 : decode c12_wrongByRow 62 = .ok (.goto (-58), 3) := by decide +kernel
theorem d12_wrongByRow_65 : decode c12_wrongByRow 65 = .ok (.aload_n 0, 1) := by decide +kernel
theorem d12_wrongByRow_66 : decode c12_wrongByRow 66 = .ok (.invokevirtual 302, 3) := by decide +kernel
theorem d12_wrongByRow_69 : decode c12_wrongByRow 69 = .ok (.invokestatic 324, 3) := by decide +kernel
theorem d12_wrongByRow_72 : decode c12_wrongByRow 72 = .ok (.istore_n 3, 1) := by decide +kernel
theorem d12_wrongByRow_73 : decode c12_wrongByRow 73 = .ok (.aload_n 0, 1) := by decide +kernel
theorem d12_wrongByRow_74 : decode c12_wrongByRow 74 = .ok (.invokevirtual 378, 3) := by decide +kernel
theorem d12_wrongByRow_77 : decode c12_wrongByRow 77 = .ok (.iload_n 2, 1) := by decide +kernel
theorem d12_wrongByRow_78 : decode c12_wrongByRow 78 = .ok (.ifCond .eq 7, 3) := by decide +kernel
theorem d12_wrongByRow_81 : decode c12_wrongByRow 81 = .ok (.iload_n 3, 1) := by decide +kernel
theorem d12_wrongByRow_82 : decode c12_wrongByRow 82 = .ok (.goto 4, 3) := by decide +kernel
theorem d12_wrongByRow_85 : decode c12_wrongByRow 85 = .ok (.iconst (-1), 1) := by decide +kernel
theorem d12_wrongByRow_86 : decode c12_wrongByRow 86 = .ok (.ireturn, 1) := by decide +kernel
abbrev c12_findsRow : ByteArray := prog_14_method_85_code
def y12_findsRow : MethodName := ⟨RX12, "findsRow", "(I)I"⟩
theorem d12_findsRow_0 : decode c12_findsRow 0 = .ok (.iconst (-1), 1) := by decide +kernel
theorem d12_findsRow_1 : decode c12_findsRow 1 = .ok (.istore_n 2, 1) := by decide +kernel
theorem d12_findsRow_2 : decode c12_findsRow 2 = .ok (.aload_n 0, 1) := by decide +kernel
theorem d12_findsRow_3 : decode c12_findsRow 3 = .ok (.invokevirtual 372, 3) := by decide +kernel
theorem d12_findsRow_6 : decode c12_findsRow 6 = .ok (.iconst 0, 1) := by decide +kernel
theorem d12_findsRow_7 : decode c12_findsRow 7 = .ok (.istore_n 3, 1) := by decide +kernel
theorem d12_findsRow_8 : decode c12_findsRow 8 = .ok (.iload_n 3, 1) := by decide +kernel
theorem d12_findsRow_9 : decode c12_findsRow 9 = .ok (.iconst 4, 1) := by decide +kernel
theorem d12_findsRow_10 : decode c12_findsRow 10 = .ok (.if_icmp .ge 16, 3) := by decide +kernel
theorem d12_findsRow_13 : decode c12_findsRow 13 = .ok (.aload_n 0, 1) := by decide +kernel
theorem d12_findsRow_14 : decode c12_findsRow 14 = .ok (.getfield 55, 3) := by decide +kernel
theorem d12_findsRow_17 : decode c12_findsRow 17 = .ok (.iload_n 3, 1) := by decide +kernel
theorem d12_findsRow_18 : decode c12_findsRow 18 = .ok (.iconst (-1), 1) := by decide +kernel
theorem d12_findsRow_19 : decode c12_findsRow 19 = .ok (.iastore, 1) := by decide +kernel
theorem d12_findsRow_20 : decode c12_findsRow 20 = .ok (.iinc 3 1, 3) := by decide +kernel
theorem d12_findsRow_23 : decode c12_findsRow 23 = .ok (.goto (-15), 3) := by decide +kernel
theorem d12_findsRow_26 : decode c12_findsRow 26 = .ok (.aload_n 0, 1) := by decide +kernel
theorem d12_findsRow_27 : decode c12_findsRow 27 = .ok (.iload_n 1, 1) := by decide +kernel
theorem d12_findsRow_28 : decode c12_findsRow 28 = .ok (.invokevirtual 387, 3) := by decide +kernel
theorem d12_findsRow_31 : decode c12_findsRow 31 = .ok (.istore_n 3, 1) := by decide +kernel
theorem d12_findsRow_32 : decode c12_findsRow 32 = .ok (.iload_n 3, 1) := by decide +kernel
theorem d12_findsRow_33 : decode c12_findsRow 33 = .ok (.ifCond .lt 46, 3) := by decide +kernel
theorem d12_findsRow_36 : decode c12_findsRow 36 = .ok (.iload_n 2, 1) := by decide +kernel
theorem d12_findsRow_37 : decode c12_findsRow 37 = .ok (.ifCond .lt 11, 3) := by decide +kernel
theorem d12_findsRow_40 : decode c12_findsRow 40 = .ok (.iload_n 3, 1) := by decide +kernel
theorem d12_findsRow_41 : decode c12_findsRow 41 = .ok (.iload_n 2, 1) := by decide +kernel
theorem d12_findsRow_42 : decode c12_findsRow 42 = .ok (.if_icmp .lt 6, 3) := by decide +kernel
theorem d12_findsRow_45 : decode c12_findsRow 45 = .ok (.goto 34, 3) := by decide +kernel
theorem d12_findsRow_48 : decode c12_findsRow 48 = .ok (.iload_n 3, 1) := by decide +kernel
theorem d12_findsRow_49 : decode c12_findsRow 49 = .ok (.istore_n 2, 1) := by decide +kernel
theorem d12_findsRow_50 : decode c12_findsRow 50 = .ok (.iconst 0, 1) := by decide +kernel
theorem d12_findsRow_51 : decode c12_findsRow 51 = .ok (.istore 4, 2) := by decide +kernel
theorem d12_findsRow_53 : decode c12_findsRow 53 = .ok (.iload 4, 2) := by decide +kernel
theorem d12_findsRow_55 : decode c12_findsRow 55 = .ok (.iconst 4, 1) := by decide +kernel
theorem d12_findsRow_56 : decode c12_findsRow 56 = .ok (.if_icmp .ge 23, 3) := by decide +kernel
theorem d12_findsRow_59 : decode c12_findsRow 59 = .ok (.aload_n 0, 1) := by decide +kernel
theorem d12_findsRow_60 : decode c12_findsRow 60 = .ok (.getfield 58, 3) := by decide +kernel
theorem d12_findsRow_63 : decode c12_findsRow 63 = .ok (.iload 4, 2) := by decide +kernel
theorem d12_findsRow_65 : decode c12_findsRow 65 = .ok (.aload_n 0, 1) := by decide +kernel
theorem d12_findsRow_66 : decode c12_findsRow 66 = .ok (.getfield 55, 3) := by decide +kernel
theorem d12_findsRow_69 : decode c12_findsRow 69 = .ok (.iload 4, 2) := by decide +kernel
theorem d12_findsRow_71 : decode c12_findsRow 71 = .ok (.iaload, 1) := by decide +kernel
theorem d12_findsRow_72 : decode c12_findsRow 72 = .ok (.iastore, 1) := by decide +kernel
theorem d12_findsRow_73 : decode c12_findsRow 73 = .ok (.iinc 4 1, 3) := by decide +kernel
theorem d12_findsRow_76 : decode c12_findsRow 76 = .ok (.goto (-23), 3) := by decide +kernel
theorem d12_findsRow_79 : decode c12_findsRow 79 = .ok (.aload_n 0, 1) := by decide +kernel
theorem d12_findsRow_80 : decode c12_findsRow 80 = .ok (.iload_n 1, 1) := by decide +kernel
theorem d12_findsRow_81 : decode c12_findsRow 81 = .ok (.invokevirtual 390, 3) := by decide +kernel
theorem d12_findsRow_84 : decode c12_findsRow 84 = .ok (.ifCond .ne (-58), 3) := by decide +kernel
theorem d12_findsRow_87 : decode c12_findsRow 87 = .ok (.iload_n 2, 1) := by decide +kernel
theorem d12_findsRow_88 : decode c12_findsRow 88 = .ok (.ireturn, 1) := by decide +kernel
abbrev c12_row : ByteArray := prog_14_method_86_code
def y12_row : MethodName := ⟨RX12, "row", "(II)I"⟩
theorem d12_row_0 : decode c12_row 0 = .ok (.aload_n 0, 1) := by decide +kernel
theorem d12_row_1 : decode c12_row 1 = .ok (.invokevirtual 293, 3) := by decide +kernel
theorem d12_row_4 : decode c12_row 4 = .ok (.ifCond .eq 27, 3) := by decide +kernel
theorem d12_row_7 : decode c12_row 7 = .ok (.iload_n 1, 1) := by decide +kernel
theorem d12_row_8 : decode c12_row 8 = .ok (.i2l, 1) := by decide +kernel
theorem d12_row_9 : decode c12_row 9 = .ok (.lconst 1, 1) := by decide +kernel
theorem d12_row_10 : decode c12_row 10 = .ok (.ldc2_w 393, 3) := by decide +kernel
theorem d12_row_13 : decode c12_row 13 = .ok (.invokestatic 127, 3) := by decide +kernel
theorem d12_row_16 : decode c12_row 16 = .ok (.ifCond .eq 15, 3) := by decide +kernel
theorem d12_row_19 : decode c12_row 19 = .ok (.iload_n 2, 1) := by decide +kernel
theorem d12_row_20 : decode c12_row 20 = .ok (.i2l, 1) := by decide +kernel
theorem d12_row_21 : decode c12_row 21 = .ok (.lconst 0, 1) := by decide +kernel
theorem d12_row_22 : decode c12_row 22 = .ok (.ldc2_w 393, 3) := by decide +kernel
theorem d12_row_25 : decode c12_row 25 = .ok (.invokestatic 127, 3) := by decide +kernel
theorem d12_row_28 : decode c12_row 28 = .ok (.ifCond .ne 6, 3) := by decide +kernel
theorem d12_row_31 : decode c12_row 31 = .ok (.bipush (-3), 2) := by decide +kernel
theorem d12_row_33 : decode c12_row 33 = .ok (.ireturn, 1) := by decide +kernel
theorem d12_row_34 : decode c12_row 34 = .ok (.aload_n 0, 1) := by decide +kernel
theorem d12_row_35 : decode c12_row 35 = .ok (.iload_n 1, 1) := by decide +kernel
theorem d12_row_36 : decode c12_row 36 = .ok (.invokevirtual 395, 3) := by decide +kernel
theorem d12_row_39 : decode c12_row 39 = .ok (.istore_n 3, 1) := by decide +kernel
theorem d12_row_40 : decode c12_row 40 = .ok (.iload_n 2, 1) := by decide +kernel
theorem d12_row_41 : decode c12_row 41 = .ok (.ifCond .ne 7, 3) := by decide +kernel
theorem d12_row_44 : decode c12_row 44 = .ok (.iload_n 3, 1) := by decide +kernel
theorem d12_row_45 : decode c12_row 45 = .ok (.goto 21, 3) := by decide +kernel
theorem d12_row_48 : decode c12_row 48 = .ok (.iload_n 2, 1) := by decide +kernel
theorem d12_row_49 : decode c12_row 49 = .ok (.iload_n 1, 1) := by decide +kernel
theorem d12_row_50 : decode c12_row 50 = .ok (.if_icmp .gt 14, 3) := by decide +kernel
theorem d12_row_53 : decode c12_row 53 = .ok (.aload_n 0, 1) := by decide +kernel
theorem d12_row_54 : decode c12_row 54 = .ok (.getfield 58, 3) := by decide +kernel
theorem d12_row_57 : decode c12_row 57 = .ok (.iload_n 2, 1) := by decide +kernel
theorem d12_row_58 : decode c12_row 58 = .ok (.iconst 1, 1) := by decide +kernel
theorem d12_row_59 : decode c12_row 59 = .ok (.isub, 1) := by decide +kernel
theorem d12_row_60 : decode c12_row 60 = .ok (.iaload, 1) := by decide +kernel
theorem d12_row_61 : decode c12_row 61 = .ok (.goto 5, 3) := by decide +kernel
theorem d12_row_64 : decode c12_row 64 = .ok (.bipush (-2), 2) := by decide +kernel
theorem d12_row_66 : decode c12_row 66 = .ok (.ireturn, 1) := by decide +kernel
abbrev c12_rings : ByteArray := prog_14_method_87_code
def y12_rings : MethodName := ⟨RX12, "rings", "()I"⟩
theorem d12_rings_0 : decode c12_rings 0 = .ok (.aload_n 0, 1) := by decide +kernel
theorem d12_rings_1 : decode c12_rings 1 = .ok (.invokevirtual 293, 3) := by decide +kernel
theorem d12_rings_4 : decode c12_rings 4 = .ok (.ifCond .ne 5, 3) := by decide +kernel
theorem d12_rings_7 : decode c12_rings 7 = .ok (.iconst (-1), 1) := by decide +kernel
theorem d12_rings_8 : decode c12_rings 8 = .ok (.ireturn, 1) := by decide +kernel
theorem d12_rings_9 : decode c12_rings 9 = .ok (.aload_n 0, 1) := by decide +kernel
theorem d12_rings_10 : decode c12_rings 10 = .ok (.invokevirtual 302, 3) := by decide +kernel
theorem d12_rings_13 : decode c12_rings 13 = .ok (.istore_n 1, 1) := by decide +kernel
theorem d12_rings_14 : decode c12_rings 14 = .ok (.iconst 0, 1) := by decide +kernel
theorem d12_rings_15 : decode c12_rings 15 = .ok (.istore_n 2, 1) := by decide +kernel
theorem d12_rings_16 : decode c12_rings 16 = .ok (.iconst 0, 1) := by decide +kernel
theorem d12_rings_17 : decode c12_rings 17 = .ok (.istore_n 3, 1) := by decide +kernel
theorem d12_rings_18 : decode c12_rings 18 = .ok (.iload_n 3, 1) := by decide +kernel
theorem d12_rings_19 : decode c12_rings 19 = .ok (.aload_n 0, 1) := by decide +kernel
theorem d12_rings_20 : decode c12_rings 20 = .ok (.getfield 39, 3) := by decide +kernel
theorem d12_rings_23 : decode c12_rings 23 = .ok (.iconst 3, 1) := by decide +kernel
theorem d12_rings_24 : decode c12_rings 24 = .ok (.iaload, 1) := by decide +kernel
theorem d12_rings_25 : decode c12_rings 25 = .ok (.if_icmp .ge 111, 3) := by decide +kernel
theorem d12_rings_28 : decode c12_rings 28 = .ok (.iload_n 1, 1) := by decide +kernel
theorem d12_rings_29 : decode c12_rings 29 = .ok (.iload_n 3, 1) := by decide +kernel
theorem d12_rings_30 : decode c12_rings 30 = .ok (.invokestatic 318, 3) := by decide +kernel
theorem d12_rings_33 : decode c12_rings 33 = .ok (.ifCond .ne 6, 3) := by decide +kernel
theorem d12_rings_36 : decode c12_rings 36 = .ok (.goto 94, 3) := by decide +kernel
theorem d12_rings_39 : decode c12_rings 39 = .ok (.aload_n 0, 1) := by decide +kernel
theorem d12_rings_40 : decode c12_rings 40 = .ok (.getfield 39, 3) := by decide +kernel
theorem d12_rings_43 : decode c12_rings 43 = .ok (.bipush 33, 2) := by decide +kernel
theorem d12_rings_45 : decode c12_rings 45 = .ok (.iload_n 3, 1) := by decide +kernel
theorem d12_rings_46 : decode c12_rings 46 = .ok (.iadd, 1) := by decide +kernel
theorem d12_rings_47 : decode c12_rings 47 = .ok (.iaload, 1) := by decide +kernel
theorem d12_rings_48 : decode c12_rings 48 = .ok (.iload_n 1, 1) := by decide +kernel
theorem d12_rings_49 : decode c12_rings 49 = .ok (.iand, 1) := by decide +kernel
theorem d12_rings_50 : decode c12_rings 50 = .ok (.istore 4, 2) := by decide +kernel
theorem d12_rings_52 : decode c12_rings 52 = .ok (.iconst 0, 1) := by decide +kernel
theorem d12_rings_53 : decode c12_rings 53 = .ok (.istore 5, 2) := by decide +kernel
theorem d12_rings_55 : decode c12_rings 55 = .ok (.iload 5, 2) := by decide +kernel
theorem d12_rings_57 : decode c12_rings 57 = .ok (.bipush 10, 2) := by decide +kernel
theorem d12_rings_59 : decode c12_rings 59 = .ok (.if_icmp .ge 56, 3) := by decide +kernel
theorem d12_rings_62 : decode c12_rings 62 = .ok (.iconst 0, 1) := by decide +kernel
theorem d12_rings_63 : decode c12_rings 63 = .ok (.istore 6, 2) := by decide +kernel
theorem d12_rings_65 : decode c12_rings 65 = .ok (.iload 6, 2) := by decide +kernel
theorem d12_rings_67 : decode c12_rings 67 = .ok (.aload_n 0, 1) := by decide +kernel
theorem d12_rings_68 : decode c12_rings 68 = .ok (.getfield 39, 3) := by decide +kernel
theorem d12_rings_71 : decode c12_rings 71 = .ok (.iconst 3, 1) := by decide +kernel
theorem d12_rings_72 : decode c12_rings 72 = .ok (.iaload, 1) := by decide +kernel
theorem d12_rings_73 : decode c12_rings 73 = .ok (.if_icmp .ge 36, 3) := by decide +kernel
theorem d12_rings_76 : decode c12_rings 76 = .ok (.iload 4, 2) := by decide +kernel
theorem d12_rings_78 : decode c12_rings 78 = .ok (.iload 6, 2) := by decide +kernel
theorem d12_rings_80 : decode c12_rings 80 = .ok (.invokestatic 318, 3) := by decide +kernel
theorem d12_rings_83 : decode c12_rings 83 = .ok (.ifCond .eq 20, 3) := by decide +kernel
theorem d12_rings_86 : decode c12_rings 86 = .ok (.iload 4, 2) := by decide +kernel
theorem d12_rings_88 : decode c12_rings 88 = .ok (.aload_n 0, 1) := by decide +kernel
theorem d12_rings_89 : decode c12_rings 89 = .ok (.getfield 39, 3) := by decide +kernel
theorem d12_rings_92 : decode c12_rings 92 = .ok (.bipush 33, 2) := by decide +kernel
theorem d12_rings_94 : decode c12_rings 94 = .ok (.iload 6, 2) := by decide +kernel
theorem d12_rings_96 : decode c12_rings 96 = .ok (.iadd, 1) := by decide +kernel
theorem d12_rings_97 : decode c12_rings 97 = .ok (.iaload, 1) := by decide +kernel
theorem d12_rings_98 : decode c12_rings 98 = .ok (.iload_n 1, 1) := by decide +kernel
theorem d12_rings_99 : decode c12_rings 99 = .ok (.iand, 1) := by decide +kernel
theorem d12_rings_100 : decode c12_rings 100 = .ok (.ior, 1) := by decide +kernel
theorem d12_rings_101 : decode c12_rings 101 = .ok (.istore 4, 2) := by decide +kernel
theorem d12_rings_103 : decode c12_rings 103 = .ok (.iinc 6 1, 3) := by decide +kernel
theorem d12_rings_106 : decode c12_rings 106 = .ok (.goto (-41), 3) := by decide +kernel
theorem d12_rings_109 : decode c12_rings 109 = .ok (.iinc 5 1, 3) := by decide +kernel
theorem d12_rings_112 : decode c12_rings 112 = .ok (.goto (-57), 3) := by decide +kernel
theorem d12_rings_115 : decode c12_rings 115 = .ok (.iload 4, 2) := by decide +kernel
theorem d12_rings_117 : decode c12_rings 117 = .ok (.iload_n 3, 1) := by decide +kernel
theorem d12_rings_118 : decode c12_rings 118 = .ok (.invokestatic 318, 3) := by decide +kernel
theorem d12_rings_121 : decode c12_rings 121 = .ok (.ifCond .eq 9, 3) := by decide +kernel
theorem d12_rings_124 : decode c12_rings 124 = .ok (.iload_n 2, 1) := by decide +kernel
theorem d12_rings_125 : decode c12_rings 125 = .ok (.iconst 1, 1) := by decide +kernel
theorem d12_rings_126 : decode c12_rings 126 = .ok (.iload_n 3, 1) := by decide +kernel
theorem d12_rings_127 : decode c12_rings 127 = .ok (.ishl, 1) := by decide +kernel
theorem d12_rings_128 : decode c12_rings 128 = .ok (.ior, 1) := by decide +kernel
theorem d12_rings_129 : decode c12_rings 129 = .ok (.istore_n 2, 1) := by decide +kernel
theorem d12_rings_130 : decode c12_rings 130 = .ok (.iinc 3 1, 3) := by decide +kernel
theorem d12_rings_133 : decode c12_rings 133 = .ok (.goto (-115), 3) := by decide +kernel
theorem d12_rings_136 : decode c12_rings 136 = .ok (.iload_n 2, 1) := by decide +kernel
theorem d12_rings_137 : decode c12_rings 137 = .ok (.ireturn, 1) := by decide +kernel
abbrev c12_alikeFrom : ByteArray := prog_14_method_88_code
def y12_alikeFrom : MethodName := ⟨RX12, "alikeFrom", "(II)I"⟩
theorem d12_alikeFrom_0 : decode c12_alikeFrom 0 = .ok (.iconst 0, 1) := by decide +kernel
theorem d12_alikeFrom_1 : decode c12_alikeFrom 1 = .ok (.istore_n 3, 1) := by decide +kernel
theorem d12_alikeFrom_2 : decode c12_alikeFrom 2 = .ok (.iload_n 2, 1) := by decide +kernel
theorem d12_alikeFrom_3 : decode c12_alikeFrom 3 = .ok (.iload_n 3, 1) := by decide +kernel
theorem d12_alikeFrom_4 : decode c12_alikeFrom 4 = .ok (.iadd, 1) := by decide +kernel
theorem d12_alikeFrom_5 : decode c12_alikeFrom 5 = .ok (.aload_n 0, 1) := by decide +kernel
theorem d12_alikeFrom_6 : decode c12_alikeFrom 6 = .ok (.getfield 39, 3) := by decide +kernel
theorem d12_alikeFrom_9 : decode c12_alikeFrom 9 = .ok (.iconst 3, 1) := by decide +kernel
theorem d12_alikeFrom_10 : decode c12_alikeFrom 10 = .ok (.iaload, 1) := by decide +kernel
theorem d12_alikeFrom_11 : decode c12_alikeFrom 11 = .ok (.if_icmp .ge 34, 3) := by decide +kernel
theorem d12_alikeFrom_14 : decode c12_alikeFrom 14 = .ok (.aload_n 0, 1) := by decide +kernel
theorem d12_alikeFrom_15 : decode c12_alikeFrom 15 = .ok (.getfield 39, 3) := by decide +kernel
theorem d12_alikeFrom_18 : decode c12_alikeFrom 18 = .ok (.bipush 13, 2) := by decide +kernel
theorem d12_alikeFrom_20 : decode c12_alikeFrom 20 = .ok (.iload_n 1, 1) := by decide +kernel
theorem d12_alikeFrom_21 : decode c12_alikeFrom 21 = .ok (.iadd, 1) := by decide +kernel
theorem d12_alikeFrom_22 : decode c12_alikeFrom 22 = .ok (.iload_n 3, 1) := by decide +kernel
theorem d12_alikeFrom_23 : decode c12_alikeFrom 23 = .ok (.iadd, 1) := by decide +kernel
theorem d12_alikeFrom_24 : decode c12_alikeFrom 24 = .ok (.iaload, 1) := by decide +kernel
theorem d12_alikeFrom_25 : decode c12_alikeFrom 25 = .ok (.aload_n 0, 1) := by decide +kernel
theorem d12_alikeFrom_26 : decode c12_alikeFrom 26 = .ok (.getfield 39, 3) := by decide +kernel
theorem d12_alikeFrom_29 : decode c12_alikeFrom 29 = .ok (.bipush 13, 2) := by decide +kernel
theorem d12_alikeFrom_31 : decode c12_alikeFrom 31 = .ok (.iload_n 2, 1) := by decide +kernel
theorem d12_alikeFrom_32 : decode c12_alikeFrom 32 = .ok (.iadd, 1) := by decide +kernel
theorem d12_alikeFrom_33 : decode c12_alikeFrom 33 = .ok (.iload_n 3, 1) := by decide +kernel
theorem d12_alikeFrom_34 : decode c12_alikeFrom 34 = .ok (.iadd, 1) := by decide +kernel
theorem d12_alikeFrom_35 : decode c12_alikeFrom 35 = .ok (.iaload, 1) := by decide +kernel
theorem d12_alikeFrom_36 : decode c12_alikeFrom 36 = .ok (.if_icmp .ne 9, 3) := by decide +kernel
theorem d12_alikeFrom_39 : decode c12_alikeFrom 39 = .ok (.iinc 3 1, 3) := by decide +kernel
theorem d12_alikeFrom_42 : decode c12_alikeFrom 42 = .ok (.goto (-40), 3) := by decide +kernel
theorem d12_alikeFrom_45 : decode c12_alikeFrom 45 = .ok (.iload_n 3, 1) := by decide +kernel
theorem d12_alikeFrom_46 : decode c12_alikeFrom 46 = .ok (.ireturn, 1) := by decide +kernel
abbrev c12_twice : ByteArray := prog_14_method_89_code
def y12_twice : MethodName := ⟨RX12, "twice", "(I)I"⟩
theorem d12_twice_0 : decode c12_twice 0 = .ok (.aload_n 0, 1) := by decide +kernel
theorem d12_twice_1 : decode c12_twice 1 = .ok (.invokevirtual 293, 3) := by decide +kernel
theorem d12_twice_4 : decode c12_twice 4 = .ok (.ifCond .eq 15, 3) := by decide +kernel
theorem d12_twice_7 : decode c12_twice 7 = .ok (.iload_n 1, 1) := by decide +kernel
theorem d12_twice_8 : decode c12_twice 8 = .ok (.i2l, 1) := by decide +kernel
theorem d12_twice_9 : decode c12_twice 9 = .ok (.lconst 0, 1) := by decide +kernel
theorem d12_twice_10 : decode c12_twice 10 = .ok (.ldc2_w 398, 3) := by decide +kernel
theorem d12_twice_13 : decode c12_twice 13 = .ok (.invokestatic 127, 3) := by decide +kernel
theorem d12_twice_16 : decode c12_twice 16 = .ok (.ifCond .ne 5, 3) := by decide +kernel
theorem d12_twice_19 : decode c12_twice 19 = .ok (.iconst (-1), 1) := by decide +kernel
theorem d12_twice_20 : decode c12_twice 20 = .ok (.ireturn, 1) := by decide +kernel
theorem d12_twice_21 : decode c12_twice 21 = .ok (.iconst 0, 1) := by decide +kernel
theorem d12_twice_22 : decode c12_twice 22 = .ok (.istore_n 2, 1) := by decide +kernel
theorem d12_twice_23 : decode c12_twice 23 = .ok (.bipush (-2), 2) := by decide +kernel
theorem d12_twice_25 : decode c12_twice 25 = .ok (.istore_n 3, 1) := by decide +kernel
theorem d12_twice_26 : decode c12_twice 26 = .ok (.bipush (-2), 2) := by decide +kernel
theorem d12_twice_28 : decode c12_twice 28 = .ok (.istore 4, 2) := by decide +kernel
theorem d12_twice_30 : decode c12_twice 30 = .ok (.iconst 0, 1) := by decide +kernel
theorem d12_twice_31 : decode c12_twice 31 = .ok (.istore 5, 2) := by decide +kernel
theorem d12_twice_33 : decode c12_twice 33 = .ok (.iload 5, 2) := by decide +kernel
theorem d12_twice_35 : decode c12_twice 35 = .ok (.aload_n 0, 1) := by decide +kernel
theorem d12_twice_36 : decode c12_twice 36 = .ok (.getfield 39, 3) := by decide +kernel
theorem d12_twice_39 : decode c12_twice 39 = .ok (.iconst 3, 1) := by decide +kernel
theorem d12_twice_40 : decode c12_twice 40 = .ok (.iaload, 1) := by decide +kernel
theorem d12_twice_41 : decode c12_twice 41 = .ok (.if_icmp .ge 63, 3) := by decide +kernel
theorem d12_twice_44 : decode c12_twice 44 = .ok (.iload 5, 2) := by decide +kernel
theorem d12_twice_46 : decode c12_twice 46 = .ok (.iconst 1, 1) := by decide +kernel
theorem d12_twice_47 : decode c12_twice 47 = .ok (.iadd, 1) := by decide +kernel
theorem d12_twice_48 : decode c12_twice 48 = .ok (.istore 6, 2) := by decide +kernel
theorem d12_twice_50 : decode c12_twice 50 = .ok (.iload 6, 2) := by decide +kernel
theorem d12_twice_52 : decode c12_twice 52 = .ok (.aload_n 0, 1) := by decide +kernel
theorem d12_twice_53 : decode c12_twice 53 = .ok (.getfield 39, 3) := by decide +kernel
theorem d12_twice_56 : decode c12_twice 56 = .ok (.iconst 3, 1) := by decide +kernel
theorem d12_twice_57 : decode c12_twice 57 = .ok (.iaload, 1) := by decide +kernel
theorem d12_twice_58 : decode c12_twice 58 = .ok (.if_icmp .ge 40, 3) := by decide +kernel
theorem d12_twice_61 : decode c12_twice 61 = .ok (.aload_n 0, 1) := by decide +kernel
theorem d12_twice_62 : decode c12_twice 62 = .ok (.iload 5, 2) := by decide +kernel
theorem d12_twice_64 : decode c12_twice 64 = .ok (.iload 6, 2) := by decide +kernel
theorem d12_twice_66 : decode c12_twice 66 = .ok (.invokevirtual 400, 3) := by decide +kernel
theorem d12_twice_69 : decode c12_twice 69 = .ok (.iload_n 2, 1) := by decide +kernel
theorem d12_twice_70 : decode c12_twice 70 = .ok (.if_icmp .gt 6, 3) := by decide +kernel
theorem d12_twice_73 : decode c12_twice 73 = .ok (.goto 19, 3) := by decide +kernel
theorem d12_twice_76 : decode c12_twice 76 = .ok (.aload_n 0, 1) := by decide +kernel
theorem d12_twice_77 : decode c12_twice 77 = .ok (.iload 5, 2) := by decide +kernel
theorem d12_twice_79 : decode c12_twice 79 = .ok (.iload 6, 2) := by decide +kernel
theorem d12_twice_81 : decode c12_twice 81 = .ok (.invokevirtual 400, 3) := by decide +kernel
theorem d12_twice_84 : decode c12_twice 84 = .ok (.istore_n 2, 1) := by decide +kernel
theorem d12_twice_85 : decode c12_twice 85 = .ok (.iload 5, 2) := by decide +kernel
theorem d12_twice_87 : decode c12_twice 87 = .ok (.istore_n 3, 1) := by decide +kernel
theorem d12_twice_88 : decode c12_twice 88 = .ok (.iload 6, 2) := by decide +kernel
theorem d12_twice_90 : decode c12_twice 90 = .ok (.istore 4, 2) := by decide +kernel
theorem d12_twice_92 : decode c12_twice 92 = .ok (.iinc 6 1, 3) := by decide +kernel
theorem d12_twice_95 : decode c12_twice 95 = .ok (.goto (-45), 3) := by decide +kernel
theorem d12_twice_98 : decode c12_twice 98 = .ok (.iinc 5 1, 3) := by decide +kernel
theorem d12_twice_101 : decode c12_twice 101 = .ok (.goto (-68), 3) := by decide +kernel
theorem d12_twice_104 : decode c12_twice 104 = .ok (.iload_n 1, 1) := by decide +kernel
theorem d12_twice_105 : decode c12_twice 105 = .ok (.ifCond .ne 7, 3) := by decide +kernel
theorem d12_twice_108 : decode c12_twice 108 = .ok (.iload_n 2, 1) := by decide +kernel
theorem d12_twice_109 : decode c12_twice 109 = .ok (.goto 14, 3) := by decide +kernel
theorem d12_twice_112 : decode c12_twice 112 = .ok (.iload_n 1, 1) := by decide +kernel
theorem d12_twice_113 : decode c12_twice 113 = .ok (.iconst 1, 1) := by decide +kernel
theorem d12_twice_114 : decode c12_twice 114 = .ok (.if_icmp .ne 7, 3) := by decide +kernel
theorem d12_twice_117 : decode c12_twice 117 = .ok (.iload_n 3, 1) := by decide +kernel
theorem d12_twice_118 : decode c12_twice 118 = .ok (.goto 5, 3) := by decide +kernel
theorem d12_twice_121 : decode c12_twice 121 = .ok (.iload 4, 2) := by decide +kernel
theorem d12_twice_123 : decode c12_twice 123 = .ok (.ireturn, 1) := by decide +kernel
abbrev c12_lesser : ByteArray := prog_14_method_90_code
def y12_lesser : MethodName := ⟨RX12, "lesser", "(II)I"⟩
theorem d12_lesser_0 : decode c12_lesser 0 = .ok (.iload_n 0, 1) := by decide +kernel
theorem d12_lesser_1 : decode c12_lesser 1 = .ok (.iload_n 1, 1) := by decide +kernel
theorem d12_lesser_2 : decode c12_lesser 2 = .ok (.if_icmp .ge 7, 3) := by decide +kernel
theorem d12_lesser_5 : decode c12_lesser 5 = .ok (.iload_n 0, 1) := by decide +kernel
theorem d12_lesser_6 : decode c12_lesser 6 = .ok (.goto 4, 3) := by decide +kernel
theorem d12_lesser_9 : decode c12_lesser 9 = .ok (.iload_n 1, 1) := by decide +kernel
theorem d12_lesser_10 : decode c12_lesser 10 = .ok (.ireturn, 1) := by decide +kernel
abbrev c12_apart : ByteArray := prog_14_method_91_code
def y12_apart : MethodName := ⟨RX12, "apart", "(III)I"⟩
theorem d12_apart_0 : decode c12_apart 0 = .ok (.aload_n 0, 1) := by decide +kernel
theorem d12_apart_1 : decode c12_apart 1 = .ok (.iload_n 1, 1) := by decide +kernel
theorem d12_apart_2 : decode c12_apart 2 = .ok (.invokevirtual 299, 3) := by decide +kernel
theorem d12_apart_5 : decode c12_apart 5 = .ok (.ifCond .eq 47, 3) := by decide +kernel
theorem d12_apart_8 : decode c12_apart 8 = .ok (.aload_n 0, 1) := by decide +kernel
theorem d12_apart_9 : decode c12_apart 9 = .ok (.iload_n 2, 1) := by decide +kernel
theorem d12_apart_10 : decode c12_apart 10 = .ok (.invokevirtual 299, 3) := by decide +kernel
theorem d12_apart_13 : decode c12_apart 13 = .ok (.ifCond .eq 39, 3) := by decide +kernel
theorem d12_apart_16 : decode c12_apart 16 = .ok (.iload_n 3, 1) := by decide +kernel
theorem d12_apart_17 : decode c12_apart 17 = .ok (.i2l, 1) := by decide +kernel
theorem d12_apart_18 : decode c12_apart 18 = .ok (.lconst 1, 1) := by decide +kernel
theorem d12_apart_19 : decode c12_apart 19 = .ok (.ldc2_w 404, 3) := by decide +kernel
theorem d12_apart_22 : decode c12_apart 22 = .ok (.invokestatic 127, 3) := by decide +kernel
theorem d12_apart_25 : decode c12_apart 25 = .ok (.ifCond .eq 27, 3) := by decide +kernel
theorem d12_apart_28 : decode c12_apart 28 = .ok (.iload_n 1, 1) := by decide +kernel
theorem d12_apart_29 : decode c12_apart 29 = .ok (.iload_n 3, 1) := by decide +kernel
theorem d12_apart_30 : decode c12_apart 30 = .ok (.iadd, 1) := by decide +kernel
theorem d12_apart_31 : decode c12_apart 31 = .ok (.aload_n 0, 1) := by decide +kernel
theorem d12_apart_32 : decode c12_apart 32 = .ok (.getfield 39, 3) := by decide +kernel
theorem d12_apart_35 : decode c12_apart 35 = .ok (.iconst 3, 1) := by decide +kernel
theorem d12_apart_36 : decode c12_apart 36 = .ok (.iaload, 1) := by decide +kernel
theorem d12_apart_37 : decode c12_apart 37 = .ok (.if_icmp .gt 15, 3) := by decide +kernel
theorem d12_apart_40 : decode c12_apart 40 = .ok (.iload_n 2, 1) := by decide +kernel
theorem d12_apart_41 : decode c12_apart 41 = .ok (.iload_n 3, 1) := by decide +kernel
theorem d12_apart_42 : decode c12_apart 42 = .ok (.iadd, 1) := by decide +kernel
theorem d12_apart_43 : decode c12_apart 43 = .ok (.aload_n 0, 1) := by decide +kernel
theorem d12_apart_44 : decode c12_apart 44 = .ok (.getfield 39, 3) := by decide +kernel
theorem d12_apart_47 : decode c12_apart 47 = .ok (.iconst 3, 1) := by decide +kernel
theorem d12_apart_48 : decode c12_apart 48 = .ok (.iaload, 1) := by decide +kernel
theorem d12_apart_49 : decode c12_apart 49 = .ok (.if_icmp .le 5, 3) := by decide +kernel
theorem d12_apart_52 : decode c12_apart 52 = .ok (.iconst (-1), 1) := by decide +kernel
theorem d12_apart_53 : decode c12_apart 53 = .ok (.ireturn, 1) := by decide +kernel
theorem d12_apart_54 : decode c12_apart 54 = .ok (.iconst 0, 1) := by decide +kernel
theorem d12_apart_55 : decode c12_apart 55 = .ok (.istore 4, 2) := by decide +kernel
theorem d12_apart_57 : decode c12_apart 57 = .ok (.iload 4, 2) := by decide +kernel
theorem d12_apart_59 : decode c12_apart 59 = .ok (.iload_n 3, 1) := by decide +kernel
theorem d12_apart_60 : decode c12_apart 60 = .ok (.if_icmp .gt 161, 3) := by decide +kernel
theorem d12_apart_63 : decode c12_apart 63 = .ok (.iconst 0, 1) := by decide +kernel
theorem d12_apart_64 : decode c12_apart 64 = .ok (.istore 5, 2) := by decide +kernel
theorem d12_apart_66 : decode c12_apart 66 = .ok (.iload 5, 2) := by decide +kernel
theorem d12_apart_68 : decode c12_apart 68 = .ok (.iload_n 3, 1) := by decide +kernel
theorem d12_apart_69 : decode c12_apart 69 = .ok (.if_icmp .gt 146, 3) := by decide +kernel
theorem d12_apart_72 : decode c12_apart 72 = .ok (.iload 4, 2) := by decide +kernel
theorem d12_apart_74 : decode c12_apart 74 = .ok (.ifCond .ne 8, 3) := by decide +kernel
theorem d12_apart_77 : decode c12_apart 77 = .ok (.iload 5, 2) := by decide +kernel
theorem d12_apart_79 : decode c12_apart 79 = .ok (.goto 5, 3) := by decide +kernel
theorem d12_apart_82 : decode c12_apart 82 = .ok (.iload 4, 2) := by decide +kernel
theorem d12_apart_84 : decode c12_apart 84 = .ok (.istore 6, 2) := by decide +kernel
theorem d12_apart_86 : decode c12_apart 86 = .ok (.iload 4, 2) := by decide +kernel
theorem d12_apart_88 : decode c12_apart 88 = .ok (.ifCond .le 106, 3) := by decide +kernel
theorem d12_apart_91 : decode c12_apart 91 = .ok (.iload 5, 2) := by decide +kernel
theorem d12_apart_93 : decode c12_apart 93 = .ok (.ifCond .le 101, 3) := by decide +kernel
theorem d12_apart_96 : decode c12_apart 96 = .ok (.aload_n 0, 1) := by decide +kernel
theorem d12_apart_97 : decode c12_apart 97 = .ok (.getfield 61, 3) := by decide +kernel
theorem d12_apart_100 : decode c12_apart 100 = .ok (.bipush 11, 2) := by decide +kernel
theorem d12_apart_102 : decode c12_apart 102 = .ok (.iload 4, 2) := by decide +kernel
theorem d12_apart_104 : decode c12_apart 104 = .ok (.iconst 1, 1) := by decide +kernel
theorem d12_apart_105 : decode c12_apart 105 = .ok (.isub, 1) := by decide +kernel
theorem d12_apart_106 : decode c12_apart 106 = .ok (.imul, 1) := by decide +kernel
theorem d12_apart_107 : decode c12_apart 107 = .ok (.iload 5, 2) := by decide +kernel
theorem d12_apart_109 : decode c12_apart 109 = .ok (.iadd, 1) := by decide +kernel
theorem d12_apart_110 : decode c12_apart 110 = .ok (.iconst 1, 1) := by decide +kernel
theorem d12_apart_111 : decode c12_apart 111 = .ok (.isub, 1) := by decide +kernel
theorem d12_apart_112 : decode c12_apart 112 = .ok (.iaload, 1) := by decide +kernel
theorem d12_apart_113 : decode c12_apart 113 = .ok (.aload_n 0, 1) := by decide +kernel
theorem d12_apart_114 : decode c12_apart 114 = .ok (.getfield 39, 3) := by decide +kernel
theorem d12_apart_117 : decode c12_apart 117 = .ok (.bipush 13, 2) := by decide +kernel
theorem d12_apart_119 : decode c12_apart 119 = .ok (.iload_n 1, 1) := by decide +kernel
theorem d12_apart_120 : decode c12_apart 120 = .ok (.iadd, 1) := by decide +kernel
theorem d12_apart_121 : decode c12_apart 121 = .ok (.iload 4, 2) := by decide +kernel
theorem d12_apart_123 : decode c12_apart 123 = .ok (.iadd, 1) := by decide +kernel
theorem d12_apart_124 : decode c12_apart 124 = .ok (.iconst 1, 1) := by decide +kernel
theorem d12_apart_125 : decode c12_apart 125 = .ok (.isub, 1) := by decide +kernel
theorem d12_apart_126 : decode c12_apart 126 = .ok (.iaload, 1) := by decide +kernel
theorem d12_apart_127 : decode c12_apart 127 = .ok (.aload_n 0, 1) := by decide +kernel
theorem d12_apart_128 : decode c12_apart 128 = .ok (.getfield 39, 3) := by decide +kernel
theorem d12_apart_131 : decode c12_apart 131 = .ok (.bipush 13, 2) := by decide +kernel
theorem d12_apart_133 : decode c12_apart 133 = .ok (.iload_n 2, 1) := by decide +kernel
theorem d12_apart_134 : decode c12_apart 134 = .ok (.iadd, 1) := by decide +kernel
theorem d12_apart_135 : decode c12_apart 135 = .ok (.iload 5, 2) := by decide +kernel
theorem d12_apart_137 : decode c12_apart 137 = .ok (.iadd, 1) := by decide +kernel
theorem d12_apart_138 : decode c12_apart 138 = .ok (.iconst 1, 1) := by decide +kernel
theorem d12_apart_139 : decode c12_apart 139 = .ok (.isub, 1) := by decide +kernel
theorem d12_apart_140 : decode c12_apart 140 = .ok (.iaload, 1) := by decide +kernel
theorem d12_apart_141 : decode c12_apart 141 = .ok (.if_icmp .ne 7, 3) := by decide +kernel
theorem d12_apart_144 : decode c12_apart 144 = .ok (.iconst 0, 1) := by decide +kernel
theorem d12_apart_145 : decode c12_apart 145 = .ok (.goto 4, 3) := by decide +kernel
theorem d12_apart_148 : decode c12_apart 148 = .ok (.iconst 1, 1) := by decide +kernel
theorem d12_apart_149 : decode c12_apart 149 = .ok (.iadd, 1) := by decide +kernel
theorem d12_apart_150 : decode c12_apart 150 = .ok (.istore 7, 2) := by decide +kernel
theorem d12_apart_152 : decode c12_apart 152 = .ok (.iload 7, 2) := by decide +kernel
theorem d12_apart_154 : decode c12_apart 154 = .ok (.iconst 1, 1) := by decide +kernel
theorem d12_apart_155 : decode c12_apart 155 = .ok (.aload_n 0, 1) := by decide +kernel
theorem d12_apart_156 : decode c12_apart 156 = .ok (.getfield 61, 3) := by decide +kernel
theorem d12_apart_159 : decode c12_apart 159 = .ok (.bipush 11, 2) := by decide +kernel
theorem d12_apart_161 : decode c12_apart 161 = .ok (.iload 4, 2) := by decide +kernel
theorem d12_apart_163 : decode c12_apart 163 = .ok (.iconst 1, 1) := by decide +kernel
theorem d12_apart_164 : decode c12_apart 164 = .ok (.isub, 1) := by decide +kernel
theorem d12_apart_165 : decode c12_apart 165 = .ok (.imul, 1) := by decide +kernel
theorem d12_apart_166 : decode c12_apart 166 = .ok (.iload 5, 2) := by decide +kernel
theorem d12_apart_168 : decode c12_apart 168 = .ok (.iadd, 1) := by decide +kernel
theorem d12_apart_169 : decode c12_apart 169 = .ok (.iaload, 1) := by decide +kernel
theorem d12_apart_170 : decode c12_apart 170 = .ok (.aload_n 0, 1) := by decide +kernel
theorem d12_apart_171 : decode c12_apart 171 = .ok (.getfield 61, 3) := by decide +kernel
theorem d12_apart_174 : decode c12_apart 174 = .ok (.bipush 11, 2) := by decide +kernel
theorem d12_apart_176 : decode c12_apart 176 = .ok (.iload 4, 2) := by decide +kernel
theorem d12_apart_178 : decode c12_apart 178 = .ok (.imul, 1) := by decide +kernel
theorem d12_apart_179 : decode c12_apart 179 = .ok (.iload 5, 2) := by decide +kernel
theorem d12_apart_181 : decode c12_apart 181 = .ok (.iadd, 1) := by decide +kernel
theorem d12_apart_182 : decode c12_apart 182 = .ok (.iconst 1, 1) := by decide +kernel
theorem d12_apart_183 : decode c12_apart 183 = .ok (.isub, 1) := by decide +kernel
theorem d12_apart_184 : decode c12_apart 184 = .ok (.iaload, 1) := by decide +kernel
theorem d12_apart_185 : decode c12_apart 185 = .ok (.invokestatic 406, 3) := by decide +kernel
theorem d12_apart_188 : decode c12_apart 188 = .ok (.iadd, 1) := by decide +kernel
theorem d12_apart_189 : decode c12_apart 189 = .ok (.invokestatic 406, 3) := by decide +kernel
theorem d12_apart_192 : decode c12_apart 192 = .ok (.istore 6, 2) := by decide +kernel
theorem d12_apart_194 : decode c12_apart 194 = .ok (.aload_n 0, 1) := by decide +kernel
theorem d12_apart_195 : decode c12_apart 195 = .ok (.getfield 61, 3) := by decide +kernel
theorem d12_apart_198 : decode c12_apart 198 = .ok (.bipush 11, 2) := by decide +kernel
theorem d12_apart_200 : decode c12_apart 200 = .ok (.iload 4, 2) := by decide +kernel
theorem d12_apart_202 : decode c12_apart 202 = .ok (.imul, 1) := by decide +kernel
theorem d12_apart_203 : decode c12_apart 203 = .ok (.iload 5, 2) := by decide +kernel
theorem d12_apart_205 : decode c12_apart 205 = .ok (.iadd, 1) := by decide +kernel
theorem d12_apart_206 : decode c12_apart 206 = .ok (.iload 6, 2) := by decide +kernel
theorem d12_apart_208 : decode c12_apart 208 = .ok (.iastore, 1) := by decide +kernel
theorem d12_apart_209 : decode c12_apart 209 = .ok (.iinc 5 1, 3) := by decide +kernel
theorem d12_apart_212 : decode c12_apart 212 = .ok (.goto (-146), 3) := by decide +kernel
theorem d12_apart_215 : decode c12_apart 215 = .ok (.iinc 4 1, 3) := by decide +kernel
theorem d12_apart_218 : decode c12_apart 218 = .ok (.goto (-161), 3) := by decide +kernel
theorem d12_apart_221 : decode c12_apart 221 = .ok (.aload_n 0, 1) := by decide +kernel
theorem d12_apart_222 : decode c12_apart 222 = .ok (.getfield 61, 3) := by decide +kernel
theorem d12_apart_225 : decode c12_apart 225 = .ok (.bipush 12, 2) := by decide +kernel
theorem d12_apart_227 : decode c12_apart 227 = .ok (.iload_n 3, 1) := by decide +kernel
theorem d12_apart_228 : decode c12_apart 228 = .ok (.imul, 1) := by decide +kernel
theorem d12_apart_229 : decode c12_apart 229 = .ok (.iaload, 1) := by decide +kernel
theorem d12_apart_230 : decode c12_apart 230 = .ok (.ireturn, 1) := by decide +kernel
abbrev c12_wrongIn : ByteArray := prog_14_method_92_code
def y12_wrongIn : MethodName := ⟨RX12, "wrongIn", "(I)I"⟩
theorem d12_wrongIn_0 : decode c12_wrongIn 0 = .ok (.aload_n 0, 1) := by decide +kernel
theorem d12_wrongIn_1 : decode c12_wrongIn 1 = .ok (.iload_n 1, 1) := by decide +kernel
theorem d12_wrongIn_2 : decode c12_wrongIn 2 = .ok (.invokevirtual 375, 3) := by decide +kernel
theorem d12_wrongIn_5 : decode c12_wrongIn 5 = .ok (.aload_n 0, 1) := by decide +kernel
theorem d12_wrongIn_6 : decode c12_wrongIn 6 = .ok (.invokevirtual 302, 3) := by decide +kernel
theorem d12_wrongIn_9 : decode c12_wrongIn 9 = .ok (.invokestatic 324, 3) := by decide +kernel
theorem d12_wrongIn_12 : decode c12_wrongIn 12 = .ok (.istore_n 2, 1) := by decide +kernel
theorem d12_wrongIn_13 : decode c12_wrongIn 13 = .ok (.aload_n 0, 1) := by decide +kernel
theorem d12_wrongIn_14 : decode c12_wrongIn 14 = .ok (.invokevirtual 378, 3) := by decide +kernel
theorem d12_wrongIn_17 : decode c12_wrongIn 17 = .ok (.iload_n 2, 1) := by decide +kernel
theorem d12_wrongIn_18 : decode c12_wrongIn 18 = .ok (.ireturn, 1) := by decide +kernel
abbrev c12_one : ByteArray := prog_14_method_93_code
def y12_one : MethodName := ⟨RX12, "one", "(II)I"⟩
theorem d12_one_0 : decode c12_one 0 = .ok (.aload_n 0, 1) := by decide +kernel
theorem d12_one_1 : decode c12_one 1 = .ok (.invokevirtual 293, 3) := by decide +kernel
theorem d12_one_4 : decode c12_one 4 = .ok (.ifCond .eq 27, 3) := by decide +kernel
theorem d12_one_7 : decode c12_one 7 = .ok (.iload_n 1, 1) := by decide +kernel
theorem d12_one_8 : decode c12_one 8 = .ok (.i2l, 1) := by decide +kernel
theorem d12_one_9 : decode c12_one 9 = .ok (.lconst 1, 1) := by decide +kernel
theorem d12_one_10 : decode c12_one 10 = .ok (.ldc2_w 409, 3) := by decide +kernel
theorem d12_one_13 : decode c12_one 13 = .ok (.invokestatic 127, 3) := by decide +kernel
theorem d12_one_16 : decode c12_one 16 = .ok (.ifCond .eq 15, 3) := by decide +kernel
theorem d12_one_19 : decode c12_one 19 = .ok (.iload_n 2, 1) := by decide +kernel
theorem d12_one_20 : decode c12_one 20 = .ok (.i2l, 1) := by decide +kernel
theorem d12_one_21 : decode c12_one 21 = .ok (.lconst 0, 1) := by decide +kernel
theorem d12_one_22 : decode c12_one 22 = .ok (.ldc2_w 398, 3) := by decide +kernel
theorem d12_one_25 : decode c12_one 25 = .ok (.invokestatic 127, 3) := by decide +kernel
theorem d12_one_28 : decode c12_one 28 = .ok (.ifCond .ne 6, 3) := by decide +kernel
theorem d12_one_31 : decode c12_one 31 = .ok (.bipush (-2), 2) := by decide +kernel
theorem d12_one_33 : decode c12_one 33 = .ok (.ireturn, 1) := by decide +kernel
theorem d12_one_34 : decode c12_one 34 = .ok (.aload_n 0, 1) := by decide +kernel
theorem d12_one_35 : decode c12_one 35 = .ok (.invokevirtual 372, 3) := by decide +kernel
theorem d12_one_38 : decode c12_one 38 = .ok (.iconst (-1), 1) := by decide +kernel
theorem d12_one_39 : decode c12_one 39 = .ok (.istore_n 3, 1) := by decide +kernel
theorem d12_one_40 : decode c12_one 40 = .ok (.iconst (-1), 1) := by decide +kernel
theorem d12_one_41 : decode c12_one 41 = .ok (.istore 4, 2) := by decide +kernel
theorem d12_one_43 : decode c12_one 43 = .ok (.aload_n 0, 1) := by decide +kernel
theorem d12_one_44 : decode c12_one 44 = .ok (.iload_n 1, 1) := by decide +kernel
theorem d12_one_45 : decode c12_one 45 = .ok (.invokevirtual 411, 3) := by decide +kernel
theorem d12_one_48 : decode c12_one 48 = .ok (.istore 5, 2) := by decide +kernel
theorem d12_one_50 : decode c12_one 50 = .ok (.iconst 0, 1) := by decide +kernel
theorem d12_one_51 : decode c12_one 51 = .ok (.istore 6, 2) := by decide +kernel
theorem d12_one_53 : decode c12_one 53 = .ok (.iload 6, 2) := by decide +kernel
theorem d12_one_55 : decode c12_one 55 = .ok (.aload_n 0, 1) := by decide +kernel
theorem d12_one_56 : decode c12_one 56 = .ok (.getfield 39, 3) := by decide +kernel
theorem d12_one_59 : decode c12_one 59 = .ok (.iconst 3, 1) := by decide +kernel
theorem d12_one_60 : decode c12_one 60 = .ok (.iaload, 1) := by decide +kernel
theorem d12_one_61 : decode c12_one 61 = .ok (.if_icmp .ge 65, 3) := by decide +kernel
theorem d12_one_64 : decode c12_one 64 = .ok (.iconst 0, 1) := by decide +kernel
theorem d12_one_65 : decode c12_one 65 = .ok (.istore 7, 2) := by decide +kernel
theorem d12_one_67 : decode c12_one 67 = .ok (.iload 7, 2) := by decide +kernel
theorem d12_one_69 : decode c12_one 69 = .ok (.bipush 8, 2) := by decide +kernel
theorem d12_one_71 : decode c12_one 71 = .ok (.if_icmp .ge 49, 3) := by decide +kernel
theorem d12_one_74 : decode c12_one 74 = .ok (.aload_n 0, 1) := by decide +kernel
theorem d12_one_75 : decode c12_one 75 = .ok (.getfield 39, 3) := by decide +kernel
theorem d12_one_78 : decode c12_one 78 = .ok (.bipush 13, 2) := by decide +kernel
theorem d12_one_80 : decode c12_one 80 = .ok (.iload 6, 2) := by decide +kernel
theorem d12_one_82 : decode c12_one 82 = .ok (.iadd, 1) := by decide +kernel
theorem d12_one_83 : decode c12_one 83 = .ok (.iload 7, 2) := by decide +kernel
theorem d12_one_85 : decode c12_one 85 = .ok (.iastore, 1) := by decide +kernel
theorem d12_one_86 : decode c12_one 86 = .ok (.aload_n 0, 1) := by decide +kernel
theorem d12_one_87 : decode c12_one 87 = .ok (.iload_n 1, 1) := by decide +kernel
theorem d12_one_88 : decode c12_one 88 = .ok (.invokevirtual 411, 3) := by decide +kernel
theorem d12_one_91 : decode c12_one 91 = .ok (.istore 8, 2) := by decide +kernel
theorem d12_one_93 : decode c12_one 93 = .ok (.iload 8, 2) := by decide +kernel
theorem d12_one_95 : decode c12_one 95 = .ok (.iload 5, 2) := by decide +kernel
theorem d12_one_97 : decode c12_one 97 = .ok (.if_icmp .lt 6, 3) := by decide +kernel
theorem d12_one_100 : decode c12_one 100 = .ok (.goto 14, 3) := by decide +kernel
theorem d12_one_103 : decode c12_one 103 = .ok (.iload 6, 2) := by decide +kernel
theorem d12_one_105 : decode c12_one 105 = .ok (.istore_n 3, 1) := by decide +kernel
theorem d12_one_106 : decode c12_one 106 = .ok (.iload 7, 2) := by decide +kernel
theorem d12_one_108 : decode c12_one 108 = .ok (.istore 4, 2) := by decide +kernel
theorem d12_one_110 : decode c12_one 110 = .ok (.iload 8, 2) := by decide +kernel
theorem d12_one_112 : decode c12_one 112 = .ok (.istore 5, 2) := by decide +kernel
theorem d12_one_114 : decode c12_one 114 = .ok (.iinc 7 1, 3) := by decide +kernel
theorem d12_one_117 : decode c12_one 117 = .ok (.goto (-50), 3) := by decide +kernel
theorem d12_one_120 : decode c12_one 120 = .ok (.iinc 6 1, 3) := by decide +kernel
theorem d12_one_123 : decode c12_one 123 = .ok (.goto (-70), 3) := by decide +kernel
theorem d12_one_126 : decode c12_one 126 = .ok (.iload_n 2, 1) := by decide +kernel
theorem d12_one_127 : decode c12_one 127 = .ok (.ifCond .ne 8, 3) := by decide +kernel
theorem d12_one_130 : decode c12_one 130 = .ok (.iload 5, 2) := by decide +kernel
theorem d12_one_132 : decode c12_one 132 = .ok (.goto 14, 3) := by decide +kernel
theorem d12_one_135 : decode c12_one 135 = .ok (.iload_n 2, 1) := by decide +kernel
theorem d12_one_136 : decode c12_one 136 = .ok (.iconst 1, 1) := by decide +kernel
theorem d12_one_137 : decode c12_one 137 = .ok (.if_icmp .ne 7, 3) := by decide +kernel
theorem d12_one_140 : decode c12_one 140 = .ok (.iload_n 3, 1) := by decide +kernel
theorem d12_one_141 : decode c12_one 141 = .ok (.goto 5, 3) := by decide +kernel
theorem d12_one_144 : decode c12_one 144 = .ok (.iload 4, 2) := by decide +kernel
theorem d12_one_146 : decode c12_one 146 = .ok (.ireturn, 1) := by decide +kernel
abbrev c12_leftOff : ByteArray := prog_14_method_94_code
def y12_leftOff : MethodName := ⟨RX12, "leftOff", "(II)I"⟩
theorem d12_leftOff_0 : decode c12_leftOff 0 = .ok (.aload_n 0, 1) := by decide +kernel
theorem d12_leftOff_1 : decode c12_leftOff 1 = .ok (.invokevirtual 293, 3) := by decide +kernel
theorem d12_leftOff_4 : decode c12_leftOff 4 = .ok (.ifCond .eq 25, 3) := by decide +kernel
theorem d12_leftOff_7 : decode c12_leftOff 7 = .ok (.iload_n 1, 1) := by decide +kernel
theorem d12_leftOff_8 : decode c12_leftOff 8 = .ok (.i2l, 1) := by decide +kernel
theorem d12_leftOff_9 : decode c12_leftOff 9 = .ok (.lconst 1, 1) := by decide +kernel
theorem d12_leftOff_10 : decode c12_leftOff 10 = .ok (.ldc2_w 409, 3) := by decide +kernel
theorem d12_leftOff_13 : decode c12_leftOff 13 = .ok (.invokestatic 127, 3) := by decide +kernel
theorem d12_leftOff_16 : decode c12_leftOff 16 = .ok (.ifCond .eq 13, 3) := by decide +kernel
theorem d12_leftOff_19 : decode c12_leftOff 19 = .ok (.iload_n 2, 1) := by decide +kernel
theorem d12_leftOff_20 : decode c12_leftOff 20 = .ok (.i2l, 1) := by decide +kernel
theorem d12_leftOff_21 : decode c12_leftOff 21 = .ok (.lconst 0, 1) := by decide +kernel
theorem d12_leftOff_22 : decode c12_leftOff 22 = .ok (.lconst 1, 1) := by decide +kernel
theorem d12_leftOff_23 : decode c12_leftOff 23 = .ok (.invokestatic 127, 3) := by decide +kernel
theorem d12_leftOff_26 : decode c12_leftOff 26 = .ok (.ifCond .ne 6, 3) := by decide +kernel
theorem d12_leftOff_29 : decode c12_leftOff 29 = .ok (.bipush (-2), 2) := by decide +kernel
theorem d12_leftOff_31 : decode c12_leftOff 31 = .ok (.ireturn, 1) := by decide +kernel
theorem d12_leftOff_32 : decode c12_leftOff 32 = .ok (.aload_n 0, 1) := by decide +kernel
theorem d12_leftOff_33 : decode c12_leftOff 33 = .ok (.invokevirtual 372, 3) := by decide +kernel
theorem d12_leftOff_36 : decode c12_leftOff 36 = .ok (.iconst (-1), 1) := by decide +kernel
theorem d12_leftOff_37 : decode c12_leftOff 37 = .ok (.istore_n 3, 1) := by decide +kernel
theorem d12_leftOff_38 : decode c12_leftOff 38 = .ok (.aload_n 0, 1) := by decide +kernel
theorem d12_leftOff_39 : decode c12_leftOff 39 = .ok (.iload_n 1, 1) := by decide +kernel
theorem d12_leftOff_40 : decode c12_leftOff 40 = .ok (.invokevirtual 411, 3) := by decide +kernel
theorem d12_leftOff_43 : decode c12_leftOff 43 = .ok (.istore 4, 2) := by decide +kernel
theorem d12_leftOff_45 : decode c12_leftOff 45 = .ok (.iconst 0, 1) := by decide +kernel
theorem d12_leftOff_46 : decode c12_leftOff 46 = .ok (.istore 5, 2) := by decide +kernel
theorem d12_leftOff_48 : decode c12_leftOff 48 = .ok (.iload 5, 2) := by decide +kernel
theorem d12_leftOff_50 : decode c12_leftOff 50 = .ok (.aload_n 0, 1) := by decide +kernel
theorem d12_leftOff_51 : decode c12_leftOff 51 = .ok (.getfield 39, 3) := by decide +kernel
theorem d12_leftOff_54 : decode c12_leftOff 54 = .ok (.iconst 2, 1) := by decide +kernel
theorem d12_leftOff_55 : decode c12_leftOff 55 = .ok (.iaload, 1) := by decide +kernel
theorem d12_leftOff_56 : decode c12_leftOff 56 = .ok (.if_icmp .ge 39, 3) := by decide +kernel
theorem d12_leftOff_59 : decode c12_leftOff 59 = .ok (.aload_n 0, 1) := by decide +kernel
theorem d12_leftOff_60 : decode c12_leftOff 60 = .ok (.iload 5, 2) := by decide +kernel
theorem d12_leftOff_62 : decode c12_leftOff 62 = .ok (.putfield 46, 3) := by decide +kernel
theorem d12_leftOff_65 : decode c12_leftOff 65 = .ok (.aload_n 0, 1) := by decide +kernel
theorem d12_leftOff_66 : decode c12_leftOff 66 = .ok (.iload_n 1, 1) := by decide +kernel
theorem d12_leftOff_67 : decode c12_leftOff 67 = .ok (.invokevirtual 411, 3) := by decide +kernel
theorem d12_leftOff_70 : decode c12_leftOff 70 = .ok (.istore 6, 2) := by decide +kernel
theorem d12_leftOff_72 : decode c12_leftOff 72 = .ok (.iload 6, 2) := by decide +kernel
theorem d12_leftOff_74 : decode c12_leftOff 74 = .ok (.iload 4, 2) := by decide +kernel
theorem d12_leftOff_76 : decode c12_leftOff 76 = .ok (.if_icmp .lt 6, 3) := by decide +kernel
theorem d12_leftOff_79 : decode c12_leftOff 79 = .ok (.goto 10, 3) := by decide +kernel
theorem d12_leftOff_82 : decode c12_leftOff 82 = .ok (.iload 5, 2) := by decide +kernel
theorem d12_leftOff_84 : decode c12_leftOff 84 = .ok (.istore_n 3, 1) := by decide +kernel
theorem d12_leftOff_85 : decode c12_leftOff 85 = .ok (.iload 6, 2) := by decide +kernel
theorem d12_leftOff_87 : decode c12_leftOff 87 = .ok (.istore 4, 2) := by decide +kernel
theorem d12_leftOff_89 : decode c12_leftOff 89 = .ok (.iinc 5 1, 3) := by decide +kernel
theorem d12_leftOff_92 : decode c12_leftOff 92 = .ok (.goto (-44), 3) := by decide +kernel
theorem d12_leftOff_95 : decode c12_leftOff 95 = .ok (.aload_n 0, 1) := by decide +kernel
theorem d12_leftOff_96 : decode c12_leftOff 96 = .ok (.iconst (-1), 1) := by decide +kernel
theorem d12_leftOff_97 : decode c12_leftOff 97 = .ok (.putfield 46, 3) := by decide +kernel
theorem d12_leftOff_100 : decode c12_leftOff 100 = .ok (.iload_n 2, 1) := by decide +kernel
theorem d12_leftOff_101 : decode c12_leftOff 101 = .ok (.ifCond .ne 7, 3) := by decide +kernel
theorem d12_leftOff_104 : decode c12_leftOff 104 = .ok (.iload_n 3, 1) := by decide +kernel
theorem d12_leftOff_105 : decode c12_leftOff 105 = .ok (.goto 5, 3) := by decide +kernel
theorem d12_leftOff_108 : decode c12_leftOff 108 = .ok (.iload 4, 2) := by decide +kernel
theorem d12_leftOff_110 : decode c12_leftOff 110 = .ok (.ireturn, 1) := by decide +kernel
abbrev c12_isAllPaid : ByteArray := prog_14_method_95_code
def y12_isAllPaid : MethodName := ⟨RX12, "isAllPaid", "(I)Z"⟩
theorem d12_isAllPaid_0 : decode c12_isAllPaid 0 = .ok (.iconst 0, 1) := by decide +kernel
theorem d12_isAllPaid_1 : decode c12_isAllPaid 1 = .ok (.istore_n 2, 1) := by decide +kernel
theorem d12_isAllPaid_2 : decode c12_isAllPaid 2 = .ok (.iload_n 2, 1) := by decide +kernel
theorem d12_isAllPaid_3 : decode c12_isAllPaid 3 = .ok (.iload_n 1, 1) := by decide +kernel
theorem d12_isAllPaid_4 : decode c12_isAllPaid 4 = .ok (.if_icmp .ge 23, 3) := by decide +kernel
theorem d12_isAllPaid_7 : decode c12_isAllPaid 7 = .ok (.aload_n 0, 1) := by decide +kernel
theorem d12_isAllPaid_8 : decode c12_isAllPaid 8 = .ok (.invokevirtual 358, 3) := by decide +kernel
theorem d12_isAllPaid_11 : decode c12_isAllPaid 11 = .ok (.pop, 1) := by decide +kernel
theorem d12_isAllPaid_12 : decode c12_isAllPaid 12 = .ok (.aload_n 0, 1) := by decide +kernel
theorem d12_isAllPaid_13 : decode c12_isAllPaid 13 = .ok (.getfield 340, 3) := by decide +kernel
theorem d12_isAllPaid_16 : decode c12_isAllPaid 16 = .ok (.ifCond .eq 5, 3) := by decide +kernel
theorem d12_isAllPaid_19 : decode c12_isAllPaid 19 = .ok (.iconst 0, 1) := by decide +kernel
theorem d12_isAllPaid_20 : decode c12_isAllPaid 20 = .ok (.ireturn, 1) := by decide +kernel
theorem d12_isAllPaid_21 : decode c12_isAllPaid 21 = .ok (.iinc 2 1, 3) := by decide +kernel
theorem d12_isAllPaid_24 : decode c12_isAllPaid 24 = .ok (.goto (-22), 3) := by decide +kernel
theorem d12_isAllPaid_27 : decode c12_isAllPaid 27 = .ok (.iconst 1, 1) := by decide +kernel
theorem d12_isAllPaid_28 : decode c12_isAllPaid 28 = .ok (.ireturn, 1) := by decide +kernel
abbrev c12_leastPurse : ByteArray := prog_14_method_96_code
def y12_leastPurse : MethodName := ⟨RX12, "leastPurse", "(I)I"⟩
theorem d12_leastPurse_0 : decode c12_leastPurse 0 = .ok (.aload_n 0, 1) := by decide +kernel
theorem d12_leastPurse_1 : decode c12_leastPurse 1 = .ok (.invokevirtual 293, 3) := by decide +kernel
theorem d12_leastPurse_4 : decode c12_leastPurse 4 = .ok (.ifCond .eq 15, 3) := by decide +kernel
theorem d12_leastPurse_7 : decode c12_leastPurse 7 = .ok (.iload_n 1, 1) := by decide +kernel
theorem d12_leastPurse_8 : decode c12_leastPurse 8 = .ok (.i2l, 1) := by decide +kernel
theorem d12_leastPurse_9 : decode c12_leastPurse 9 = .ok (.lconst 1, 1) := by decide +kernel
theorem d12_leastPurse_10 : decode c12_leastPurse 10 = .ok (.ldc2_w 409, 3) := by decide +kernel
theorem d12_leastPurse_13 : decode c12_leastPurse 13 = .ok (.invokestatic 127, 3) := by decide +kernel
theorem d12_leastPurse_16 : decode c12_leastPurse 16 = .ok (.ifCond .ne 5, 3) := by decide +kernel
theorem d12_leastPurse_19 : decode c12_leastPurse 19 = .ok (.iconst (-1), 1) := by decide +kernel
theorem d12_leastPurse_20 : decode c12_leastPurse 20 = .ok (.ireturn, 1) := by decide +kernel
theorem d12_leastPurse_21 : decode c12_leastPurse 21 = .ok (.bipush (-2), 2) := by decide +kernel
theorem d12_leastPurse_23 : decode c12_leastPurse 23 = .ok (.istore_n 2, 1) := by decide +kernel
theorem d12_leastPurse_24 : decode c12_leastPurse 24 = .ok (.aload_n 0, 1) := by decide +kernel
theorem d12_leastPurse_25 : decode c12_leastPurse 25 = .ok (.invokevirtual 372, 3) := by decide +kernel
theorem d12_leastPurse_28 : decode c12_leastPurse 28 = .ok (.iconst 0, 1) := by decide +kernel
theorem d12_leastPurse_29 : decode c12_leastPurse 29 = .ok (.istore_n 3, 1) := by decide +kernel
theorem d12_leastPurse_30 : decode c12_leastPurse 30 = .ok (.iload_n 3, 1) := by decide +kernel
theorem d12_leastPurse_31 : decode c12_leastPurse 31 = .ok (.sipush 999, 3) := by decide +kernel
theorem d12_leastPurse_34 : decode c12_leastPurse 34 = .ok (.if_icmp .gt 35, 3) := by decide +kernel
theorem d12_leastPurse_37 : decode c12_leastPurse 37 = .ok (.iload_n 2, 1) := by decide +kernel
theorem d12_leastPurse_38 : decode c12_leastPurse 38 = .ok (.ifCond .ge 31, 3) := by decide +kernel
theorem d12_leastPurse_41 : decode c12_leastPurse 41 = .ok (.aload_n 0, 1) := by decide +kernel
theorem d12_leastPurse_42 : decode c12_leastPurse 42 = .ok (.getfield 39, 3) := by decide +kernel
theorem d12_leastPurse_45 : decode c12_leastPurse 45 = .ok (.bipush 11, 2) := by decide +kernel
theorem d12_leastPurse_47 : decode c12_leastPurse 47 = .ok (.iload_n 3, 1) := by decide +kernel
theorem d12_leastPurse_48 : decode c12_leastPurse 48 = .ok (.iastore, 1) := by decide +kernel
theorem d12_leastPurse_49 : decode c12_leastPurse 49 = .ok (.aload_n 0, 1) := by decide +kernel
theorem d12_leastPurse_50 : decode c12_leastPurse 50 = .ok (.iload_n 1, 1) := by decide +kernel
theorem d12_leastPurse_51 : decode c12_leastPurse 51 = .ok (.invokevirtual 414, 3) := by decide +kernel
theorem d12_leastPurse_54 : decode c12_leastPurse 54 = .ok (.ifCond .eq 5, 3) := by decide +kernel
theorem d12_leastPurse_57 : decode c12_leastPurse 57 = .ok (.iload_n 3, 1) := by decide +kernel
theorem d12_leastPurse_58 : decode c12_leastPurse 58 = .ok (.istore_n 2, 1) := by decide +kernel
theorem d12_leastPurse_59 : decode c12_leastPurse 59 = .ok (.aload_n 0, 1) := by decide +kernel
theorem d12_leastPurse_60 : decode c12_leastPurse 60 = .ok (.invokevirtual 378, 3) := by decide +kernel
theorem d12_leastPurse_63 : decode c12_leastPurse 63 = .ok (.iinc 3 1, 3) := by decide +kernel
theorem d12_leastPurse_66 : decode c12_leastPurse 66 = .ok (.goto (-36), 3) := by decide +kernel
theorem d12_leastPurse_69 : decode c12_leastPurse 69 = .ok (.iload_n 2, 1) := by decide +kernel
theorem d12_leastPurse_70 : decode c12_leastPurse 70 = .ok (.ireturn, 1) := by decide +kernel
