abbrev c_Tokens_splitOne : ByteArray := prog_11_method_3_code
def y_Tokens_splitOne : MethodName := ⟨RX9, "splitOne", "([III)I"⟩
theorem d_Tokens_splitOne_0 : decode c_Tokens_splitOne 0 = .ok (.aload_n 1, 1) := by decide +kernel
theorem d_Tokens_splitOne_1 : decode c_Tokens_splitOne 1 = .ok (.iload_n 3, 1) := by decide +kernel
theorem d_Tokens_splitOne_2 : decode c_Tokens_splitOne 2 = .ok (.iaload, 1) := by decide +kernel
theorem d_Tokens_splitOne_3 : decode c_Tokens_splitOne 3 = .ok (.istore 4, 2) := by decide +kernel
theorem d_Tokens_splitOne_5 : decode c_Tokens_splitOne 5 = .ok (.iload 4, 2) := by decide +kernel
theorem d_Tokens_splitOne_7 : decode c_Tokens_splitOne 7 = .ok (.bipush 32, 2) := by decide +kernel
theorem d_Tokens_splitOne_9 : decode c_Tokens_splitOne 9 = .ok (.if_icmp .ne 7, 3) := by decide +kernel
theorem d_Tokens_splitOne_12 : decode c_Tokens_splitOne 12 = .ok (.iload_n 3, 1) := by decide +kernel
theorem d_Tokens_splitOne_13 : decode c_Tokens_splitOne 13 = .ok (.iconst 1, 1) := by decide +kernel
theorem d_Tokens_splitOne_14 : decode c_Tokens_splitOne 14 = .ok (.iadd, 1) := by decide +kernel
theorem d_Tokens_splitOne_15 : decode c_Tokens_splitOne 15 = .ok (.ireturn, 1) := by decide +kernel
theorem d_Tokens_splitOne_16 : decode c_Tokens_splitOne 16 = .ok (.iload 4, 2) := by decide +kernel
theorem d_Tokens_splitOne_18 : decode c_Tokens_splitOne 18 = .ok (.invokestatic 51, 3) := by decide +kernel
theorem d_Tokens_splitOne_21 : decode c_Tokens_splitOne 21 = .ok (.ifCond .eq 11, 3) := by decide +kernel
theorem d_Tokens_splitOne_24 : decode c_Tokens_splitOne 24 = .ok (.aload_n 0, 1) := by decide +kernel
theorem d_Tokens_splitOne_25 : decode c_Tokens_splitOne 25 = .ok (.aload_n 1, 1) := by decide +kernel
theorem d_Tokens_splitOne_26 : decode c_Tokens_splitOne 26 = .ok (.iload_n 2, 1) := by decide +kernel
theorem d_Tokens_splitOne_27 : decode c_Tokens_splitOne 27 = .ok (.iload_n 3, 1) := by decide +kernel
theorem d_Tokens_splitOne_28 : decode c_Tokens_splitOne 28 = .ok (.invokevirtual 55, 3) := by decide +kernel
theorem d_Tokens_splitOne_31 : decode c_Tokens_splitOne 31 = .ok (.ireturn, 1) := by decide +kernel
theorem d_Tokens_splitOne_32 : decode c_Tokens_splitOne 32 = .ok (.iload 4, 2) := by decide +kernel
theorem d_Tokens_splitOne_34 : decode c_Tokens_splitOne 34 = .ok (.invokestatic 58, 3) := by decide +kernel
theorem d_Tokens_splitOne_37 : decode c_Tokens_splitOne 37 = .ok (.ifCond .eq 13, 3) := by decide +kernel
theorem d_Tokens_splitOne_40 : decode c_Tokens_splitOne 40 = .ok (.aload_n 0, 1) := by decide +kernel
theorem d_Tokens_splitOne_41 : decode c_Tokens_splitOne 41 = .ok (.aload_n 1, 1) := by decide +kernel
theorem d_Tokens_splitOne_42 : decode c_Tokens_splitOne 42 = .ok (.iload_n 2, 1) := by decide +kernel
theorem d_Tokens_splitOne_43 : decode c_Tokens_splitOne 43 = .ok (.iload_n 3, 1) := by decide +kernel
theorem d_Tokens_splitOne_44 : decode c_Tokens_splitOne 44 = .ok (.invokevirtual 61, 3) := by decide +kernel
theorem d_Tokens_splitOne_47 : decode c_Tokens_splitOne 47 = .ok (.goto 10, 3) := by decide +kernel
theorem d_Tokens_splitOne_50 : decode c_Tokens_splitOne 50 = .ok (.aload_n 0, 1) := by decide +kernel
theorem d_Tokens_splitOne_51 : decode c_Tokens_splitOne 51 = .ok (.aload_n 1, 1) := by decide +kernel
theorem d_Tokens_splitOne_52 : decode c_Tokens_splitOne 52 = .ok (.iload_n 2, 1) := by decide +kernel
theorem d_Tokens_splitOne_53 : decode c_Tokens_splitOne 53 = .ok (.iload_n 3, 1) := by decide +kernel
theorem d_Tokens_splitOne_54 : decode c_Tokens_splitOne 54 = .ok (.invokevirtual 64, 3) := by decide +kernel
theorem d_Tokens_splitOne_57 : decode c_Tokens_splitOne 57 = .ok (.ireturn, 1) := by decide +kernel
abbrev c_Tokens_splitNumber : ByteArray := prog_11_method_4_code
def y_Tokens_splitNumber : MethodName := ⟨RX9, "splitNumber", "([III)I"⟩
theorem d_Tokens_splitNumber_0 : decode c_Tokens_splitNumber 0 = .ok (.iconst 0, 1) := by decide +kernel
theorem d_Tokens_splitNumber_1 : decode c_Tokens_splitNumber 1 = .ok (.istore 4, 2) := by decide +kernel
theorem d_Tokens_splitNumber_3 : decode c_Tokens_splitNumber 3 = .ok (.iload_n 3, 1) := by decide +kernel
theorem d_Tokens_splitNumber_4 : decode c_Tokens_splitNumber 4 = .ok (.istore 5, 2) := by decide +kernel
theorem d_Tokens_splitNumber_6 : decode c_Tokens_splitNumber 6 = .ok (.iload 5, 2) := by decide +kernel
theorem d_Tokens_splitNumber_8 : decode c_Tokens_splitNumber 8 = .ok (.iload_n 2, 1) := by decide +kernel
theorem d_Tokens_splitNumber_9 : decode c_Tokens_splitNumber 9 = .ok (.if_icmp .ge 42, 3) := by decide +kernel
theorem d_Tokens_splitNumber_12 : decode c_Tokens_splitNumber 12 = .ok (.aload_n 1, 1) := by decide +kernel
theorem d_Tokens_splitNumber_13 : decode c_Tokens_splitNumber 13 = .ok (.iload 5, 2) := by decide +kernel
theorem d_Tokens_splitNumber_15 : decode c_Tokens_splitNumber 15 = .ok (.iaload, 1) := by decide +kernel
theorem d_Tokens_splitNumber_16 : decode c_Tokens_splitNumber 16 = .ok (.invokestatic 51, 3) := by decide +kernel
theorem d_Tokens_splitNumber_19 : decode c_Tokens_splitNumber 19 = .ok (.ifCond .eq 32, 3) := by decide +kernel
theorem d_Tokens_splitNumber_22 : decode c_Tokens_splitNumber 22 = .ok (.iload 5, 2) := by decide +kernel
theorem d_Tokens_splitNumber_24 : decode c_Tokens_splitNumber 24 = .ok (.iload_n 3, 1) := by decide +kernel
theorem d_Tokens_splitNumber_25 : decode c_Tokens_splitNumber 25 = .ok (.isub, 1) := by decide +kernel
theorem d_Tokens_splitNumber_26 : decode c_Tokens_splitNumber 26 = .ok (.iconst 5, 1) := by decide +kernel
theorem d_Tokens_splitNumber_27 : decode c_Tokens_splitNumber 27 = .ok (.if_icmp .ge 18, 3) := by decide +kernel
theorem d_Tokens_splitNumber_30 : decode c_Tokens_splitNumber 30 = .ok (.iload 4, 2) := by decide +kernel
theorem d_Tokens_splitNumber_32 : decode c_Tokens_splitNumber 32 = .ok (.bipush 10, 2) := by decide +kernel
theorem d_Tokens_splitNumber_34 : decode c_Tokens_splitNumber 34 = .ok (.imul, 1) := by decide +kernel
theorem d_Tokens_splitNumber_35 : decode c_Tokens_splitNumber 35 = .ok (.aload_n 1, 1) := by decide +kernel
theorem d_Tokens_splitNumber_36 : decode c_Tokens_splitNumber 36 = .ok (.iload 5, 2) := by decide +kernel
theorem d_Tokens_splitNumber_38 : decode c_Tokens_splitNumber 38 = .ok (.iaload, 1) := by decide +kernel
theorem d_Tokens_splitNumber_39 : decode c_Tokens_splitNumber 39 = .ok (.iadd, 1) := by decide +kernel
theorem d_Tokens_splitNumber_40 : decode c_Tokens_splitNumber 40 = .ok (.bipush 48, 2) := by decide +kernel
theorem d_Tokens_splitNumber_42 : decode c_Tokens_splitNumber 42 = .ok (.isub, 1) := by decide +kernel
theorem d_Tokens_splitNumber_43 : decode c_Tokens_splitNumber 43 = .ok (.istore 4, 2) := by decide +kernel
theorem d_Tokens_splitNumber_45 : decode c_Tokens_splitNumber 45 = .ok (.iinc 5 1, 3) := by decide +kernel
theorem d_Tokens_splitNumber_48 : decode c_Tokens_splitNumber 48 = .ok (.goto (-42), 3) := by decide +kernel
theorem d_Tokens_splitNumber_51 : decode c_Tokens_splitNumber 51 = .ok (.aload_n 0, 1) := by decide +kernel
theorem d_Tokens_splitNumber_52 : decode c_Tokens_splitNumber 52 = .ok (.iload 5, 2) := by decide +kernel
theorem d_Tokens_splitNumber_54 : decode c_Tokens_splitNumber 54 = .ok (.iload_n 3, 1) := by decide +kernel
theorem d_Tokens_splitNumber_55 : decode c_Tokens_splitNumber 55 = .ok (.isub, 1) := by decide +kernel
theorem d_Tokens_splitNumber_56 : decode c_Tokens_splitNumber 56 = .ok (.iconst 5, 1) := by decide +kernel
theorem d_Tokens_splitNumber_57 : decode c_Tokens_splitNumber 57 = .ok (.if_icmp .le 7, 3) := by decide +kernel
theorem d_Tokens_splitNumber_60 : decode c_Tokens_splitNumber 60 = .ok (.iconst 2, 1) := by decide +kernel
theorem d_Tokens_splitNumber_61 : decode c_Tokens_splitNumber 61 = .ok (.goto 4, 3) := by decide +kernel
theorem d_Tokens_splitNumber_64 : decode c_Tokens_splitNumber 64 = .ok (.iconst 1, 1) := by decide +kernel
theorem d_Tokens_splitNumber_65 : decode c_Tokens_splitNumber 65 = .ok (.iload 4, 2) := by decide +kernel
theorem d_Tokens_splitNumber_67 : decode c_Tokens_splitNumber 67 = .ok (.iload_n 3, 1) := by decide +kernel
theorem d_Tokens_splitNumber_68 : decode c_Tokens_splitNumber 68 = .ok (.invokevirtual 35, 3) := by decide +kernel
theorem d_Tokens_splitNumber_71 : decode c_Tokens_splitNumber 71 = .ok (.iload 5, 2) := by decide +kernel
theorem d_Tokens_splitNumber_73 : decode c_Tokens_splitNumber 73 = .ok (.ireturn, 1) := by decide +kernel
abbrev c_Tokens_splitWord : ByteArray := prog_11_method_5_code
def y_Tokens_splitWord : MethodName := ⟨RX9, "splitWord", "([III)I"⟩
theorem d_Tokens_splitWord_0 : decode c_Tokens_splitWord 0 = .ok (.iload_n 3, 1) := by decide +kernel
theorem d_Tokens_splitWord_1 : decode c_Tokens_splitWord 1 = .ok (.istore 4, 2) := by decide +kernel
theorem d_Tokens_splitWord_3 : decode c_Tokens_splitWord 3 = .ok (.iload 4, 2) := by decide +kernel
theorem d_Tokens_splitWord_5 : decode c_Tokens_splitWord 5 = .ok (.iload_n 2, 1) := by decide +kernel
theorem d_Tokens_splitWord_6 : decode c_Tokens_splitWord 6 = .ok (.if_icmp .ge 19, 3) := by decide +kernel
theorem d_Tokens_splitWord_9 : decode c_Tokens_splitWord 9 = .ok (.aload_n 1, 1) := by decide +kernel
theorem d_Tokens_splitWord_10 : decode c_Tokens_splitWord 10 = .ok (.iload 4, 2) := by decide +kernel
theorem d_Tokens_splitWord_12 : decode c_Tokens_splitWord 12 = .ok (.iaload, 1) := by decide +kernel
theorem d_Tokens_splitWord_13 : decode c_Tokens_splitWord 13 = .ok (.invokestatic 58, 3) := by decide +kernel
theorem d_Tokens_splitWord_16 : decode c_Tokens_splitWord 16 = .ok (.ifCond .eq 9, 3) := by decide +kernel
theorem d_Tokens_splitWord_19 : decode c_Tokens_splitWord 19 = .ok (.iinc 4 1, 3) := by decide +kernel
theorem d_Tokens_splitWord_22 : decode c_Tokens_splitWord 22 = .ok (.goto (-19), 3) := by decide +kernel
theorem d_Tokens_splitWord_25 : decode c_Tokens_splitWord 25 = .ok (.aload_n 1, 1) := by decide +kernel
theorem d_Tokens_splitWord_26 : decode c_Tokens_splitWord 26 = .ok (.iload_n 3, 1) := by decide +kernel
theorem d_Tokens_splitWord_27 : decode c_Tokens_splitWord 27 = .ok (.iload 4, 2) := by decide +kernel
theorem d_Tokens_splitWord_29 : decode c_Tokens_splitWord 29 = .ok (.invokestatic 67, 3) := by decide +kernel
theorem d_Tokens_splitWord_32 : decode c_Tokens_splitWord 32 = .ok (.istore 5, 2) := by decide +kernel
theorem d_Tokens_splitWord_34 : decode c_Tokens_splitWord 34 = .ok (.aload_n 0, 1) := by decide +kernel
theorem d_Tokens_splitWord_35 : decode c_Tokens_splitWord 35 = .ok (.iload 5, 2) := by decide +kernel
theorem d_Tokens_splitWord_37 : decode c_Tokens_splitWord 37 = .ok (.iconst (-1), 1) := by decide +kernel
theorem d_Tokens_splitWord_38 : decode c_Tokens_splitWord 38 = .ok (.if_icmp .ne 7, 3) := by decide +kernel
theorem d_Tokens_splitWord_41 : decode c_Tokens_splitWord 41 = .ok (.iconst 5, 1) := by decide +kernel
theorem d_Tokens_splitWord_42 : decode c_Tokens_splitWord 42 = .ok (.goto 4, 3) := by decide +kernel
theorem d_Tokens_splitWord_45 : decode c_Tokens_splitWord 45 = .ok (.iconst 3, 1) := by decide +kernel
theorem d_Tokens_splitWord_46 : decode c_Tokens_splitWord 46 = .ok (.iload 5, 2) := by decide +kernel
theorem d_Tokens_splitWord_48 : decode c_Tokens_splitWord 48 = .ok (.iload_n 3, 1) := by decide +kernel
theorem d_Tokens_splitWord_49 : decode c_Tokens_splitWord 49 = .ok (.invokevirtual 35, 3) := by decide +kernel
theorem d_Tokens_splitWord_52 : decode c_Tokens_splitWord 52 = .ok (.iload 4, 2) := by decide +kernel
theorem d_Tokens_splitWord_54 : decode c_Tokens_splitWord 54 = .ok (.ireturn, 1) := by decide +kernel
abbrev c_Tokens_splitSign : ByteArray := prog_11_method_6_code
def y_Tokens_splitSign : MethodName := ⟨RX9, "splitSign", "([III)I"⟩
theorem d_Tokens_splitSign_0 : decode c_Tokens_splitSign 0 = .ok (.aload_n 1, 1) := by decide +kernel
theorem d_Tokens_splitSign_1 : decode c_Tokens_splitSign 1 = .ok (.iload_n 3, 1) := by decide +kernel
theorem d_Tokens_splitSign_2 : decode c_Tokens_splitSign 2 = .ok (.iaload, 1) := by decide +kernel
theorem d_Tokens_splitSign_3 : decode c_Tokens_splitSign 3 = .ok (.istore 4, 2) := by decide +kernel
theorem d_Tokens_splitSign_5 : decode c_Tokens_splitSign 5 = .ok (.ldc 70, 2) := by decide +kernel
theorem d_Tokens_splitSign_7 : decode c_Tokens_splitSign 7 = .ok (.iload 4, 2) := by decide +kernel
theorem d_Tokens_splitSign_9 : decode c_Tokens_splitSign 9 = .ok (.i2c, 1) := by decide +kernel
theorem d_Tokens_splitSign_10 : decode c_Tokens_splitSign 10 = .ok (.invokevirtual 72, 3) := by decide +kernel
theorem d_Tokens_splitSign_13 : decode c_Tokens_splitSign 13 = .ok (.ifCond .ge 14, 3) := by decide +kernel
theorem d_Tokens_splitSign_16 : decode c_Tokens_splitSign 16 = .ok (.aload_n 0, 1) := by decide +kernel
theorem d_Tokens_splitSign_17 : decode c_Tokens_splitSign 17 = .ok (.iconst 5, 1) := by decide +kernel
theorem d_Tokens_splitSign_18 : decode c_Tokens_splitSign 18 = .ok (.iconst 0, 1) := by decide +kernel
theorem d_Tokens_splitSign_19 : decode c_Tokens_splitSign 19 = .ok (.iload_n 3, 1) := by decide +kernel
theorem d_Tokens_splitSign_20 : decode c_Tokens_splitSign 20 = .ok (.invokevirtual 35, 3) := by decide +kernel
theorem d_Tokens_splitSign_23 : decode c_Tokens_splitSign 23 = .ok (.iload_n 3, 1) := by decide +kernel
theorem d_Tokens_splitSign_24 : decode c_Tokens_splitSign 24 = .ok (.iconst 1, 1) := by decide +kernel
theorem d_Tokens_splitSign_25 : decode c_Tokens_splitSign 25 = .ok (.iadd, 1) := by decide +kernel
theorem d_Tokens_splitSign_26 : decode c_Tokens_splitSign 26 = .ok (.ireturn, 1) := by decide +kernel
theorem d_Tokens_splitSign_27 : decode c_Tokens_splitSign 27 = .ok (.iload 4, 2) := by decide +kernel
theorem d_Tokens_splitSign_29 : decode c_Tokens_splitSign 29 = .ok (.bipush 60, 2) := by decide +kernel
theorem d_Tokens_splitSign_31 : decode c_Tokens_splitSign 31 = .ok (.if_icmp .eq 10, 3) := by decide +kernel
theorem d_Tokens_splitSign_34 : decode c_Tokens_splitSign 34 = .ok (.iload 4, 2) := by decide +kernel
theorem d_Tokens_splitSign_36 : decode c_Tokens_splitSign 36 = .ok (.bipush 62, 2) := by decide +kernel
theorem d_Tokens_splitSign_38 : decode c_Tokens_splitSign 38 = .ok (.if_icmp .ne 24, 3) := by decide +kernel
theorem d_Tokens_splitSign_41 : decode c_Tokens_splitSign 41 = .ok (.iload_n 3, 1) := by decide +kernel
theorem d_Tokens_splitSign_42 : decode c_Tokens_splitSign 42 = .ok (.iconst 1, 1) := by decide +kernel
theorem d_Tokens_splitSign_43 : decode c_Tokens_splitSign 43 = .ok (.iadd, 1) := by decide +kernel
theorem d_Tokens_splitSign_44 : decode c_Tokens_splitSign 44 = .ok (.iload_n 2, 1) := by decide +kernel
theorem d_Tokens_splitSign_45 : decode c_Tokens_splitSign 45 = .ok (.if_icmp .ge 17, 3) := by decide +kernel
theorem d_Tokens_splitSign_48 : decode c_Tokens_splitSign 48 = .ok (.aload_n 1, 1) := by decide +kernel
theorem d_Tokens_splitSign_49 : decode c_Tokens_splitSign 49 = .ok (.iload_n 3, 1) := by decide +kernel
theorem d_Tokens_splitSign_50 : decode c_Tokens_splitSign 50 = .ok (.iconst 1, 1) := by decide +kernel
theorem d_Tokens_splitSign_51 : decode c_Tokens_splitSign 51 = .ok (.iadd, 1) := by decide +kernel
theorem d_Tokens_splitSign_52 : decode c_Tokens_splitSign 52 = .ok (.iaload, 1) := by decide +kernel
theorem d_Tokens_splitSign_53 : decode c_Tokens_splitSign 53 = .ok (.bipush 61, 2) := by decide +kernel
theorem d_Tokens_splitSign_55 : decode c_Tokens_splitSign 55 = .ok (.if_icmp .ne 7, 3) := by decide +kernel
theorem d_Tokens_splitSign_58 : decode c_Tokens_splitSign 58 = .ok (.iconst 1, 1) := by decide +kernel
theorem d_Tokens_splitSign_59 : decode c_Tokens_splitSign 59 = .ok (.goto 4, 3) := by decide +kernel
theorem d_Tokens_splitSign_62 : decode c_Tokens_splitSign 62 = .ok (.iconst 0, 1) := by decide +kernel
theorem d_Tokens_splitSign_63 : decode c_Tokens_splitSign 63 = .ok (.istore 5, 2) := by decide +kernel
theorem d_Tokens_splitSign_65 : decode c_Tokens_splitSign 65 = .ok (.aload_n 0, 1) := by decide +kernel
theorem d_Tokens_splitSign_66 : decode c_Tokens_splitSign 66 = .ok (.iconst 4, 1) := by decide +kernel
theorem d_Tokens_splitSign_67 : decode c_Tokens_splitSign 67 = .ok (.iload 5, 2) := by decide +kernel
theorem d_Tokens_splitSign_69 : decode c_Tokens_splitSign 69 = .ok (.ifCond .eq 12, 3) := by decide +kernel
theorem d_Tokens_splitSign_72 : decode c_Tokens_splitSign 72 = .ok (.iload 4, 2) := by decide +kernel
theorem d_Tokens_splitSign_74 : decode c_Tokens_splitSign 74 = .ok (.sipush 256, 3) := by decide +kernel
theorem d_Tokens_splitSign_77 : decode c_Tokens_splitSign 77 = .ok (.iadd, 1) := by decide +kernel
theorem d_Tokens_splitSign_78 : decode c_Tokens_splitSign 78 = .ok (.goto 5, 3) := by decide +kernel
theorem d_Tokens_splitSign_81 : decode c_Tokens_splitSign 81 = .ok (.iload 4, 2) := by decide +kernel
theorem d_Tokens_splitSign_83 : decode c_Tokens_splitSign 83 = .ok (.iload_n 3, 1) := by decide +kernel
theorem d_Tokens_splitSign_84 : decode c_Tokens_splitSign 84 = .ok (.invokevirtual 35, 3) := by decide +kernel
theorem d_Tokens_splitSign_87 : decode c_Tokens_splitSign 87 = .ok (.iload 5, 2) := by decide +kernel
theorem d_Tokens_splitSign_89 : decode c_Tokens_splitSign 89 = .ok (.ifCond .eq 9, 3) := by decide +kernel
theorem d_Tokens_splitSign_92 : decode c_Tokens_splitSign 92 = .ok (.iload_n 3, 1) := by decide +kernel
theorem d_Tokens_splitSign_93 : decode c_Tokens_splitSign 93 = .ok (.iconst 2, 1) := by decide +kernel
theorem d_Tokens_splitSign_94 : decode c_Tokens_splitSign 94 = .ok (.iadd, 1) := by decide +kernel
theorem d_Tokens_splitSign_95 : decode c_Tokens_splitSign 95 = .ok (.goto 6, 3) := by decide +kernel
theorem d_Tokens_splitSign_98 : decode c_Tokens_splitSign 98 = .ok (.iload_n 3, 1) := by decide +kernel
theorem d_Tokens_splitSign_99 : decode c_Tokens_splitSign 99 = .ok (.iconst 1, 1) := by decide +kernel
theorem d_Tokens_splitSign_100 : decode c_Tokens_splitSign 100 = .ok (.iadd, 1) := by decide +kernel
theorem d_Tokens_splitSign_101 : decode c_Tokens_splitSign 101 = .ok (.ireturn, 1) := by decide +kernel
abbrev c_Tokens_add : ByteArray := prog_11_method_7_code
def y_Tokens_add : MethodName := ⟨RX9, "add", "(III)V"⟩
theorem d_Tokens_add_0 : decode c_Tokens_add 0 = .ok (.aload_n 0, 1) := by decide +kernel
theorem d_Tokens_add_1 : decode c_Tokens_add 1 = .ok (.getfield 21, 3) := by decide +kernel
theorem d_Tokens_add_4 : decode c_Tokens_add 4 = .ok (.aload_n 0, 1) := by decide +kernel
theorem d_Tokens_add_5 : decode c_Tokens_add 5 = .ok (.getfield 9, 3) := by decide +kernel
theorem d_Tokens_add_8 : decode c_Tokens_add 8 = .ok (.arraylength, 1) := by decide +kernel
theorem d_Tokens_add_9 : decode c_Tokens_add 9 = .ok (.if_icmp .ge 43, 3) := by decide +kernel
theorem d_Tokens_add_12 : decode c_Tokens_add 12 = .ok (.aload_n 0, 1) := by decide +kernel
theorem d_Tokens_add_13 : decode c_Tokens_add 13 = .ok (.getfield 9, 3) := by decide +kernel
theorem d_Tokens_add_16 : decode c_Tokens_add 16 = .ok (.aload_n 0, 1) := by decide +kernel
theorem d_Tokens_add_17 : decode c_Tokens_add 17 = .ok (.getfield 21, 3) := by decide +kernel
theorem d_Tokens_add_20 : decode c_Tokens_add 20 = .ok (.iload_n 1, 1) := by decide +kernel
theorem d_Tokens_add_21 : decode c_Tokens_add 21 = .ok (.iastore, 1) := by decide +kernel
theorem d_Tokens_add_22 : decode c_Tokens_add 22 = .ok (.aload_n 0, 1) := by decide +kernel
theorem d_Tokens_add_23 : decode c_Tokens_add 23 = .ok (.getfield 15, 3) := by decide +kernel
theorem d_Tokens_add_26 : decode c_Tokens_add 26 = .ok (.aload_n 0, 1) := by decide +kernel
theorem d_Tokens_add_27 : decode c_Tokens_add 27 = .ok (.getfield 21, 3) := by decide +kernel
theorem d_Tokens_add_30 : decode c_Tokens_add 30 = .ok (.iload_n 2, 1) := by decide +kernel
theorem d_Tokens_add_31 : decode c_Tokens_add 31 = .ok (.iastore, 1) := by decide +kernel
theorem d_Tokens_add_32 : decode c_Tokens_add 32 = .ok (.aload_n 0, 1) := by decide +kernel
theorem d_Tokens_add_33 : decode c_Tokens_add 33 = .ok (.getfield 18, 3) := by decide +kernel
theorem d_Tokens_add_36 : decode c_Tokens_add 36 = .ok (.aload_n 0, 1) := by decide +kernel
theorem d_Tokens_add_37 : decode c_Tokens_add 37 = .ok (.getfield 21, 3) := by decide +kernel
theorem d_Tokens_add_40 : decode c_Tokens_add 40 = .ok (.iload_n 3, 1) := by decide +kernel
theorem d_Tokens_add_41 : decode c_Tokens_add 41 = .ok (.iastore, 1) := by decide +kernel
theorem d_Tokens_add_42 : decode c_Tokens_add 42 = .ok (.aload_n 0, 1) := by decide +kernel
theorem d_Tokens_add_43 : decode c_Tokens_add 43 = .ok (.dup, 1) := by decide +kernel
theorem d_Tokens_add_44 : decode c_Tokens_add 44 = .ok (.getfield 21, 3) := by decide +kernel
theorem d_Tokens_add_47 : decode c_Tokens_add 47 = .ok (.iconst 1, 1) := by decide +kernel
theorem d_Tokens_add_48 : decode c_Tokens_add 48 = .ok (.iadd, 1) := by decide +kernel
theorem d_Tokens_add_49 : decode c_Tokens_add 49 = .ok (.putfield 21, 3) := by decide +kernel
theorem d_Tokens_add_52 : decode c_Tokens_add 52 = .ok (.return_, 1) := by decide +kernel
abbrev c_Tokens_wordOf : ByteArray := prog_11_method_8_code
def y_Tokens_wordOf : MethodName := ⟨RX9, "wordOf", "([III)I"⟩
theorem d_Tokens_wordOf_0 : decode c_Tokens_wordOf 0 = .ok (.iconst 0, 1) := by decide +kernel
theorem d_Tokens_wordOf_1 : decode c_Tokens_wordOf 1 = .ok (.istore_n 3, 1) := by decide +kernel
theorem d_Tokens_wordOf_2 : decode c_Tokens_wordOf 2 = .ok (.iconst 0, 1) := by decide +kernel
theorem d_Tokens_wordOf_3 : decode c_Tokens_wordOf 3 = .ok (.istore 4, 2) := by decide +kernel
theorem d_Tokens_wordOf_5 : decode c_Tokens_wordOf 5 = .ok (.iconst 0, 1) := by decide +kernel
theorem d_Tokens_wordOf_6 : decode c_Tokens_wordOf 6 = .ok (.istore 5, 2) := by decide +kernel
theorem d_Tokens_wordOf_8 : decode c_Tokens_wordOf 8 = .ok (.iload 5, 2) := by decide +kernel
theorem d_Tokens_wordOf_10 : decode c_Tokens_wordOf 10 = .ok (.ldc 78, 2) := by decide +kernel
theorem d_Tokens_wordOf_12 : decode c_Tokens_wordOf 12 = .ok (.invokevirtual 80, 3) := by decide +kernel
theorem d_Tokens_wordOf_15 : decode c_Tokens_wordOf 15 = .ok (.if_icmp .ge 55, 3) := by decide +kernel
theorem d_Tokens_wordOf_18 : decode c_Tokens_wordOf 18 = .ok (.ldc 78, 2) := by decide +kernel
theorem d_Tokens_wordOf_20 : decode c_Tokens_wordOf 20 = .ok (.iload 5, 2) := by decide +kernel
theorem d_Tokens_wordOf_22 : decode c_Tokens_wordOf 22 = .ok (.invokevirtual 84, 3) := by decide +kernel
theorem d_Tokens_wordOf_25 : decode c_Tokens_wordOf 25 = .ok (.bipush 32, 2) := by decide +kernel
theorem d_Tokens_wordOf_27 : decode c_Tokens_wordOf 27 = .ok (.if_icmp .ne 37, 3) := by decide +kernel
theorem d_Tokens_wordOf_30 : decode c_Tokens_wordOf 30 = .ok (.iload 5, 2) := by decide +kernel
theorem d_Tokens_wordOf_32 : decode c_Tokens_wordOf 32 = .ok (.iload 4, 2) := by decide +kernel
theorem d_Tokens_wordOf_34 : decode c_Tokens_wordOf 34 = .ok (.isub, 1) := by decide +kernel
theorem d_Tokens_wordOf_35 : decode c_Tokens_wordOf 35 = .ok (.iload_n 2, 1) := by decide +kernel
theorem d_Tokens_wordOf_36 : decode c_Tokens_wordOf 36 = .ok (.iload_n 1, 1) := by decide +kernel
theorem d_Tokens_wordOf_37 : decode c_Tokens_wordOf 37 = .ok (.isub, 1) := by decide +kernel
theorem d_Tokens_wordOf_38 : decode c_Tokens_wordOf 38 = .ok (.if_icmp .ne 17, 3) := by decide +kernel
theorem d_Tokens_wordOf_41 : decode c_Tokens_wordOf 41 = .ok (.aload_n 0, 1) := by decide +kernel
theorem d_Tokens_wordOf_42 : decode c_Tokens_wordOf 42 = .ok (.iload_n 1, 1) := by decide +kernel
theorem d_Tokens_wordOf_43 : decode c_Tokens_wordOf 43 = .ok (.iload 4, 2) := by decide +kernel
theorem d_Tokens_wordOf_45 : decode c_Tokens_wordOf 45 = .ok (.iload 5, 2) := by decide +kernel
theorem d_Tokens_wordOf_47 : decode c_Tokens_wordOf 47 = .ok (.invokestatic 88, 3) := by decide +kernel
theorem d_Tokens_wordOf_50 : decode c_Tokens_wordOf 50 = .ok (.ifCond .eq 5, 3) := by decide +kernel
theorem d_Tokens_wordOf_53 : decode c_Tokens_wordOf 53 = .ok (.iload_n 3, 1) := by decide +kernel
theorem d_Tokens_wordOf_54 : decode c_Tokens_wordOf 54 = .ok (.ireturn, 1) := by decide +kernel
theorem d_Tokens_wordOf_55 : decode c_Tokens_wordOf 55 = .ok (.iinc 3 1, 3) := by decide +kernel
theorem d_Tokens_wordOf_58 : decode c_Tokens_wordOf 58 = .ok (.iload 5, 2) := by decide +kernel
theorem d_Tokens_wordOf_60 : decode c_Tokens_wordOf 60 = .ok (.iconst 1, 1) := by decide +kernel
theorem d_Tokens_wordOf_61 : decode c_Tokens_wordOf 61 = .ok (.iadd, 1) := by decide +kernel
theorem d_Tokens_wordOf_62 : decode c_Tokens_wordOf 62 = .ok (.istore 4, 2) := by decide +kernel
theorem d_Tokens_wordOf_64 : decode c_Tokens_wordOf 64 = .ok (.iinc 5 1, 3) := by decide +kernel
theorem d_Tokens_wordOf_67 : decode c_Tokens_wordOf 67 = .ok (.goto (-59), 3) := by decide +kernel
theorem d_Tokens_wordOf_70 : decode c_Tokens_wordOf 70 = .ok (.iconst (-1), 1) := by decide +kernel
theorem d_Tokens_wordOf_71 : decode c_Tokens_wordOf 71 = .ok (.ireturn, 1) := by decide +kernel
abbrev c_Tokens_isSpelt : ByteArray := prog_11_method_9_code
def y_Tokens_isSpelt : MethodName := ⟨RX9, "isSpelt", "([IIII)Z"⟩
theorem d_Tokens_isSpelt_0 : decode c_Tokens_isSpelt 0 = .ok (.iload_n 2, 1) := by decide +kernel
theorem d_Tokens_isSpelt_1 : decode c_Tokens_isSpelt 1 = .ok (.istore 4, 2) := by decide +kernel
theorem d_Tokens_isSpelt_3 : decode c_Tokens_isSpelt 3 = .ok (.iload 4, 2) := by decide +kernel
theorem d_Tokens_isSpelt_5 : decode c_Tokens_isSpelt 5 = .ok (.iload_n 3, 1) := by decide +kernel
theorem d_Tokens_isSpelt_6 : decode c_Tokens_isSpelt 6 = .ok (.if_icmp .ge 29, 3) := by decide +kernel
theorem d_Tokens_isSpelt_9 : decode c_Tokens_isSpelt 9 = .ok (.aload_n 0, 1) := by decide +kernel
theorem d_Tokens_isSpelt_10 : decode c_Tokens_isSpelt 10 = .ok (.iload_n 1, 1) := by decide +kernel
theorem d_Tokens_isSpelt_11 : decode c_Tokens_isSpelt 11 = .ok (.iload 4, 2) := by decide +kernel
theorem d_Tokens_isSpelt_13 : decode c_Tokens_isSpelt 13 = .ok (.iadd, 1) := by decide +kernel
theorem d_Tokens_isSpelt_14 : decode c_Tokens_isSpelt 14 = .ok (.iload_n 2, 1) := by decide +kernel
theorem d_Tokens_isSpelt_15 : decode c_Tokens_isSpelt 15 = .ok (.isub, 1) := by decide +kernel
theorem d_Tokens_isSpelt_16 : decode c_Tokens_isSpelt 16 = .ok (.iaload, 1) := by decide +kernel
theorem d_Tokens_isSpelt_17 : decode c_Tokens_isSpelt 17 = .ok (.ldc 78, 2) := by decide +kernel
theorem d_Tokens_isSpelt_19 : decode c_Tokens_isSpelt 19 = .ok (.iload 4, 2) := by decide +kernel
theorem d_Tokens_isSpelt_21 : decode c_Tokens_isSpelt 21 = .ok (.invokevirtual 84, 3) := by decide +kernel
theorem d_Tokens_isSpelt_24 : decode c_Tokens_isSpelt 24 = .ok (.if_icmp .eq 5, 3) := by decide +kernel
theorem d_Tokens_isSpelt_27 : decode c_Tokens_isSpelt 27 = .ok (.iconst 0, 1) := by decide +kernel
theorem d_Tokens_isSpelt_28 : decode c_Tokens_isSpelt 28 = .ok (.ireturn, 1) := by decide +kernel
theorem d_Tokens_isSpelt_29 : decode c_Tokens_isSpelt 29 = .ok (.iinc 4 1, 3) := by decide +kernel
theorem d_Tokens_isSpelt_32 : decode c_Tokens_isSpelt 32 = .ok (.goto (-29), 3) := by decide +kernel
theorem d_Tokens_isSpelt_35 : decode c_Tokens_isSpelt 35 = .ok (.iconst 1, 1) := by decide +kernel
theorem d_Tokens_isSpelt_36 : decode c_Tokens_isSpelt 36 = .ok (.ireturn, 1) := by decide +kernel
abbrev c_Tokens_isDigit : ByteArray := prog_11_method_10_code
def y_Tokens_isDigit : MethodName := ⟨RX9, "isDigit", "(I)Z"⟩
theorem d_Tokens_isDigit_0 : decode c_Tokens_isDigit 0 = .ok (.iload_n 0, 1) := by decide +kernel
theorem d_Tokens_isDigit_1 : decode c_Tokens_isDigit 1 = .ok (.bipush 48, 2) := by decide +kernel
theorem d_Tokens_isDigit_3 : decode c_Tokens_isDigit 3 = .ok (.if_icmp .lt 13, 3) := by decide +kernel
theorem d_Tokens_isDigit_6 : decode c_Tokens_isDigit 6 = .ok (.iload_n 0, 1) := by decide +kernel
theorem d_Tokens_isDigit_7 : decode c_Tokens_isDigit 7 = .ok (.bipush 57, 2) := by decide +kernel
theorem d_Tokens_isDigit_9 : decode c_Tokens_isDigit 9 = .ok (.if_icmp .gt 7, 3) := by decide +kernel
theorem d_Tokens_isDigit_12 : decode c_Tokens_isDigit 12 = .ok (.iconst 1, 1) := by decide +kernel
theorem d_Tokens_isDigit_13 : decode c_Tokens_isDigit 13 = .ok (.goto 4, 3) := by decide +kernel
theorem d_Tokens_isDigit_16 : decode c_Tokens_isDigit 16 = .ok (.iconst 0, 1) := by decide +kernel
theorem d_Tokens_isDigit_17 : decode c_Tokens_isDigit 17 = .ok (.ireturn, 1) := by decide +kernel
abbrev c_Tokens_isSmall : ByteArray := prog_11_method_11_code
def y_Tokens_isSmall : MethodName := ⟨RX9, "isSmall", "(I)Z"⟩
theorem d_Tokens_isSmall_0 : decode c_Tokens_isSmall 0 = .ok (.iload_n 0, 1) := by decide +kernel
theorem d_Tokens_isSmall_1 : decode c_Tokens_isSmall 1 = .ok (.bipush 97, 2) := by decide +kernel
theorem d_Tokens_isSmall_3 : decode c_Tokens_isSmall 3 = .ok (.if_icmp .lt 13, 3) := by decide +kernel
theorem d_Tokens_isSmall_6 : decode c_Tokens_isSmall 6 = .ok (.iload_n 0, 1) := by decide +kernel
theorem d_Tokens_isSmall_7 : decode c_Tokens_isSmall 7 = .ok (.bipush 122, 2) := by decide +kernel
theorem d_Tokens_isSmall_9 : decode c_Tokens_isSmall 9 = .ok (.if_icmp .gt 7, 3) := by decide +kernel
theorem d_Tokens_isSmall_12 : decode c_Tokens_isSmall 12 = .ok (.iconst 1, 1) := by decide +kernel
theorem d_Tokens_isSmall_13 : decode c_Tokens_isSmall 13 = .ok (.goto 4, 3) := by decide +kernel
theorem d_Tokens_isSmall_16 : decode c_Tokens_isSmall 16 = .ok (.iconst 0, 1) := by decide +kernel
theorem d_Tokens_isSmall_17 : decode c_Tokens_isSmall 17 = .ok (.ireturn, 1) := by decide +kernel
abbrev c_Tokens_isWord : ByteArray := prog_11_method_12_code
def y_Tokens_isWord : MethodName := ⟨RX9, "isWord", "(I)Z"⟩
theorem d_Tokens_isWord_0 : decode c_Tokens_isWord 0 = .ok (.aload_n 0, 1) := by decide +kernel
theorem d_Tokens_isWord_1 : decode c_Tokens_isWord 1 = .ok (.getfield 42, 3) := by decide +kernel
theorem d_Tokens_isWord_4 : decode c_Tokens_isWord 4 = .ok (.iconst 3, 1) := by decide +kernel
theorem d_Tokens_isWord_5 : decode c_Tokens_isWord 5 = .ok (.if_icmp .ne 15, 3) := by decide +kernel
theorem d_Tokens_isWord_8 : decode c_Tokens_isWord 8 = .ok (.aload_n 0, 1) := by decide +kernel
theorem d_Tokens_isWord_9 : decode c_Tokens_isWord 9 = .ok (.getfield 45, 3) := by decide +kernel
theorem d_Tokens_isWord_12 : decode c_Tokens_isWord 12 = .ok (.iload_n 1, 1) := by decide +kernel
theorem d_Tokens_isWord_13 : decode c_Tokens_isWord 13 = .ok (.if_icmp .ne 7, 3) := by decide +kernel
theorem d_Tokens_isWord_16 : decode c_Tokens_isWord 16 = .ok (.iconst 1, 1) := by decide +kernel
theorem d_Tokens_isWord_17 : decode c_Tokens_isWord 17 = .ok (.goto 4, 3) := by decide +kernel
theorem d_Tokens_isWord_20 : decode c_Tokens_isWord 20 = .ok (.iconst 0, 1) := by decide +kernel
theorem d_Tokens_isWord_21 : decode c_Tokens_isWord 21 = .ok (.ireturn, 1) := by decide +kernel
abbrev c_Tokens_isSign : ByteArray := prog_11_method_13_code
def y_Tokens_isSign : MethodName := ⟨RX9, "isSign", "(I)Z"⟩
theorem d_Tokens_isSign_0 : decode c_Tokens_isSign 0 = .ok (.aload_n 0, 1) := by decide +kernel
theorem d_Tokens_isSign_1 : decode c_Tokens_isSign 1 = .ok (.getfield 42, 3) := by decide +kernel
theorem d_Tokens_isSign_4 : decode c_Tokens_isSign 4 = .ok (.iconst 4, 1) := by decide +kernel
theorem d_Tokens_isSign_5 : decode c_Tokens_isSign 5 = .ok (.if_icmp .ne 15, 3) := by decide +kernel
theorem d_Tokens_isSign_8 : decode c_Tokens_isSign 8 = .ok (.aload_n 0, 1) := by decide +kernel
theorem d_Tokens_isSign_9 : decode c_Tokens_isSign 9 = .ok (.getfield 45, 3) := by decide +kernel
theorem d_Tokens_isSign_12 : decode c_Tokens_isSign 12 = .ok (.iload_n 1, 1) := by decide +kernel
theorem d_Tokens_isSign_13 : decode c_Tokens_isSign 13 = .ok (.if_icmp .ne 7, 3) := by decide +kernel
theorem d_Tokens_isSign_16 : decode c_Tokens_isSign 16 = .ok (.iconst 1, 1) := by decide +kernel
theorem d_Tokens_isSign_17 : decode c_Tokens_isSign 17 = .ok (.goto 4, 3) := by decide +kernel
theorem d_Tokens_isSign_20 : decode c_Tokens_isSign 20 = .ok (.iconst 0, 1) := by decide +kernel
theorem d_Tokens_isSign_21 : decode c_Tokens_isSign 21 = .ok (.ireturn, 1) := by decide +kernel
abbrev c_Tokens_takeSign : ByteArray := prog_11_method_14_code
def y_Tokens_takeSign : MethodName := ⟨RX9, "takeSign", "(I)V"⟩
theorem d_Tokens_takeSign_0 : decode c_Tokens_takeSign 0 = .ok (.aload_n 0, 1) := by decide +kernel
theorem d_Tokens_takeSign_1 : decode c_Tokens_takeSign 1 = .ok (.iload_n 1, 1) := by decide +kernel
theorem d_Tokens_takeSign_2 : decode c_Tokens_takeSign 2 = .ok (.invokevirtual 92, 3) := by decide +kernel
theorem d_Tokens_takeSign_5 : decode c_Tokens_takeSign 5 = .ok (.ifCond .eq 10, 3) := by decide +kernel
theorem d_Tokens_takeSign_8 : decode c_Tokens_takeSign 8 = .ok (.aload_n 0, 1) := by decide +kernel
theorem d_Tokens_takeSign_9 : decode c_Tokens_takeSign 9 = .ok (.invokevirtual 95, 3) := by decide +kernel
theorem d_Tokens_takeSign_12 : decode c_Tokens_takeSign 12 = .ok (.goto 8, 3) := by decide +kernel
theorem d_Tokens_takeSign_15 : decode c_Tokens_takeSign 15 = .ok (.aload_n 0, 1) := by decide +kernel
theorem d_Tokens_takeSign_16 : decode c_Tokens_takeSign 16 = .ok (.iconst 0, 1) := by decide +kernel
theorem d_Tokens_takeSign_17 : decode c_Tokens_takeSign 17 = .ok (.invokevirtual 98, 3) := by decide +kernel
theorem d_Tokens_takeSign_20 : decode c_Tokens_takeSign 20 = .ok (.return_, 1) := by decide +kernel
abbrev c_Tokens_goOn : ByteArray := prog_11_method_15_code
def y_Tokens_goOn : MethodName := ⟨RX9, "goOn", "()V"⟩
theorem d_Tokens_goOn_0 : decode c_Tokens_goOn 0 = .ok (.aload_n 0, 1) := by decide +kernel
theorem d_Tokens_goOn_1 : decode c_Tokens_goOn 1 = .ok (.getfield 48, 3) := by decide +kernel
theorem d_Tokens_goOn_4 : decode c_Tokens_goOn 4 = .ok (.ifCond .ne 52, 3) := by decide +kernel
theorem d_Tokens_goOn_7 : decode c_Tokens_goOn 7 = .ok (.aload_n 0, 1) := by decide +kernel
theorem d_Tokens_goOn_8 : decode c_Tokens_goOn 8 = .ok (.getfield 39, 3) := by decide +kernel
theorem d_Tokens_goOn_11 : decode c_Tokens_goOn 11 = .ok (.iconst 1, 1) := by decide +kernel
theorem d_Tokens_goOn_12 : decode c_Tokens_goOn 12 = .ok (.iadd, 1) := by decide +kernel
theorem d_Tokens_goOn_13 : decode c_Tokens_goOn 13 = .ok (.aload_n 0, 1) := by decide +kernel
theorem d_Tokens_goOn_14 : decode c_Tokens_goOn 14 = .ok (.getfield 21, 3) := by decide +kernel
theorem d_Tokens_goOn_17 : decode c_Tokens_goOn 17 = .ok (.if_icmp .ge 39, 3) := by decide +kernel
theorem d_Tokens_goOn_20 : decode c_Tokens_goOn 20 = .ok (.aload_n 0, 1) := by decide +kernel
theorem d_Tokens_goOn_21 : decode c_Tokens_goOn 21 = .ok (.dup, 1) := by decide +kernel
theorem d_Tokens_goOn_22 : decode c_Tokens_goOn 22 = .ok (.getfield 39, 3) := by decide +kernel
theorem d_Tokens_goOn_25 : decode c_Tokens_goOn 25 = .ok (.iconst 1, 1) := by decide +kernel
theorem d_Tokens_goOn_26 : decode c_Tokens_goOn 26 = .ok (.iadd, 1) := by decide +kernel
theorem d_Tokens_goOn_27 : decode c_Tokens_goOn 27 = .ok (.putfield 39, 3) := by decide +kernel
theorem d_Tokens_goOn_30 : decode c_Tokens_goOn 30 = .ok (.aload_n 0, 1) := by decide +kernel
theorem d_Tokens_goOn_31 : decode c_Tokens_goOn 31 = .ok (.aload_n 0, 1) := by decide +kernel
theorem d_Tokens_goOn_32 : decode c_Tokens_goOn 32 = .ok (.getfield 9, 3) := by decide +kernel
theorem d_Tokens_goOn_35 : decode c_Tokens_goOn 35 = .ok (.aload_n 0, 1) := by decide +kernel
theorem d_Tokens_goOn_36 : decode c_Tokens_goOn 36 = .ok (.getfield 39, 3) := by decide +kernel
theorem d_Tokens_goOn_39 : decode c_Tokens_goOn 39 = .ok (.iaload, 1) := by decide +kernel
theorem d_Tokens_goOn_40 : decode c_Tokens_goOn 40 = .ok (.putfield 42, 3) := by decide +kernel
theorem d_Tokens_goOn_43 : decode c_Tokens_goOn 43 = .ok (.aload_n 0, 1) := by decide +kernel
theorem d_Tokens_goOn_44 : decode c_Tokens_goOn 44 = .ok (.aload_n 0, 1) := by decide +kernel
theorem d_Tokens_goOn_45 : decode c_Tokens_goOn 45 = .ok (.getfield 15, 3) := by decide +kernel
theorem d_Tokens_goOn_48 : decode c_Tokens_goOn 48 = .ok (.aload_n 0, 1) := by decide +kernel
theorem d_Tokens_goOn_49 : decode c_Tokens_goOn 49 = .ok (.getfield 39, 3) := by decide +kernel
theorem d_Tokens_goOn_52 : decode c_Tokens_goOn 52 = .ok (.iaload, 1) := by decide +kernel
theorem d_Tokens_goOn_53 : decode c_Tokens_goOn 53 = .ok (.putfield 45, 3) := by decide +kernel
theorem d_Tokens_goOn_56 : decode c_Tokens_goOn 56 = .ok (.return_, 1) := by decide +kernel
abbrev c_Tokens_fail : ByteArray := prog_11_method_16_code
def y_Tokens_fail : MethodName := ⟨RX9, "fail", "(I)V"⟩
theorem d_Tokens_fail_0 : decode c_Tokens_fail 0 = .ok (.aload_n 0, 1) := by decide +kernel
theorem d_Tokens_fail_1 : decode c_Tokens_fail 1 = .ok (.getfield 48, 3) := by decide +kernel
theorem d_Tokens_fail_4 : decode c_Tokens_fail 4 = .ok (.ifCond .ne 28, 3) := by decide +kernel
theorem d_Tokens_fail_7 : decode c_Tokens_fail 7 = .ok (.aload_n 0, 1) := by decide +kernel
theorem d_Tokens_fail_8 : decode c_Tokens_fail 8 = .ok (.iconst 1, 1) := by decide +kernel
theorem d_Tokens_fail_9 : decode c_Tokens_fail 9 = .ok (.bipush 8, 2) := by decide +kernel
theorem d_Tokens_fail_11 : decode c_Tokens_fail 11 = .ok (.aload_n 0, 1) := by decide +kernel
theorem d_Tokens_fail_12 : decode c_Tokens_fail 12 = .ok (.getfield 18, 3) := by decide +kernel
theorem d_Tokens_fail_15 : decode c_Tokens_fail 15 = .ok (.aload_n 0, 1) := by decide +kernel
theorem d_Tokens_fail_16 : decode c_Tokens_fail 16 = .ok (.getfield 39, 3) := by decide +kernel
theorem d_Tokens_fail_19 : decode c_Tokens_fail 19 = .ok (.iaload, 1) := by decide +kernel
theorem d_Tokens_fail_20 : decode c_Tokens_fail 20 = .ok (.imul, 1) := by decide +kernel
theorem d_Tokens_fail_21 : decode c_Tokens_fail 21 = .ok (.iadd, 1) := by decide +kernel
theorem d_Tokens_fail_22 : decode c_Tokens_fail 22 = .ok (.iload_n 1, 1) := by decide +kernel
theorem d_Tokens_fail_23 : decode c_Tokens_fail 23 = .ok (.iadd, 1) := by decide +kernel
theorem d_Tokens_fail_24 : decode c_Tokens_fail 24 = .ok (.putfield 48, 3) := by decide +kernel
theorem d_Tokens_fail_27 : decode c_Tokens_fail 27 = .ok (.aload_n 0, 1) := by decide +kernel
theorem d_Tokens_fail_28 : decode c_Tokens_fail 28 = .ok (.iconst 5, 1) := by decide +kernel
theorem d_Tokens_fail_29 : decode c_Tokens_fail 29 = .ok (.putfield 42, 3) := by decide +kernel
theorem d_Tokens_fail_32 : decode c_Tokens_fail 32 = .ok (.return_, 1) := by decide +kernel
abbrev c_World_init : ByteArray := prog_12_method_1_code
def y_World_init : MethodName := ⟨RX10, "<init>", "()V"⟩
theorem d_World_init_0 : decode c_World_init 0 = .ok (.aload_n 0, 1) := by decide +kernel
theorem d_World_init_1 : decode c_World_init 1 = .ok (.invokespecial 3, 3) := by decide +kernel
theorem d_World_init_4 : decode c_World_init 4 = .ok (.aload_n 0, 1) := by decide +kernel
theorem d_World_init_5 : decode c_World_init 5 = .ok (.new 9, 3) := by decide +kernel
theorem d_World_init_8 : decode c_World_init 8 = .ok (.dup, 1) := by decide +kernel
theorem d_World_init_9 : decode c_World_init 9 = .ok (.invokespecial 11, 3) := by decide +kernel
theorem d_World_init_12 : decode c_World_init 12 = .ok (.putfield 12, 3) := by decide +kernel
theorem d_World_init_15 : decode c_World_init 15 = .ok (.aload_n 0, 1) := by decide +kernel
theorem d_World_init_16 : decode c_World_init 16 = .ok (.new 18, 3) := by decide +kernel
theorem d_World_init_19 : decode c_World_init 19 = .ok (.dup, 1) := by decide +kernel
theorem d_World_init_20 : decode c_World_init 20 = .ok (.invokespecial 20, 3) := by decide +kernel
theorem d_World_init_23 : decode c_World_init 23 = .ok (.putfield 21, 3) := by decide +kernel
theorem d_World_init_26 : decode c_World_init 26 = .ok (.aload_n 0, 1) := by decide +kernel
theorem d_World_init_27 : decode c_World_init 27 = .ok (.new 25, 3) := by decide +kernel
theorem d_World_init_30 : decode c_World_init 30 = .ok (.dup, 1) := by decide +kernel
theorem d_World_init_31 : decode c_World_init 31 = .ok (.invokespecial 27, 3) := by decide +kernel
theorem d_World_init_34 : decode c_World_init 34 = .ok (.putfield 28, 3) := by decide +kernel
theorem d_World_init_37 : decode c_World_init 37 = .ok (.aload_n 0, 1) := by decide +kernel
theorem d_World_init_38 : decode c_World_init 38 = .ok (.iconst (-1), 1) := by decide +kernel
theorem d_World_init_39 : decode c_World_init 39 = .ok (.putfield 32, 3) := by decide +kernel
theorem d_World_init_42 : decode c_World_init 42 = .ok (.return_, 1) := by decide +kernel
abbrev c_World_open : ByteArray := prog_12_method_2_code
def y_World_open : MethodName := ⟨RX10, "open", "(LErrataRow$Book;)V"⟩
theorem d_World_open_0 : decode c_World_open 0 = .ok (.aload_n 0, 1) := by decide +kernel
theorem d_World_open_1 : decode c_World_open 1 = .ok (.getfield 12, 3) := by decide +kernel
theorem d_World_open_4 : decode c_World_open 4 = .ok (.aload_n 1, 1) := by decide +kernel
theorem d_World_open_5 : decode c_World_open 5 = .ok (.invokevirtual 36, 3) := by decide +kernel
theorem d_World_open_8 : decode c_World_open 8 = .ok (.aload_n 0, 1) := by decide +kernel
theorem d_World_open_9 : decode c_World_open 9 = .ok (.getfield 21, 3) := by decide +kernel
theorem d_World_open_12 : decode c_World_open 12 = .ok (.aload_n 1, 1) := by decide +kernel
theorem d_World_open_13 : decode c_World_open 13 = .ok (.getfield 40, 3) := by decide +kernel
theorem d_World_open_16 : decode c_World_open 16 = .ok (.invokevirtual 43, 3) := by decide +kernel
theorem d_World_open_19 : decode c_World_open 19 = .ok (.aload_n 0, 1) := by decide +kernel
theorem d_World_open_20 : decode c_World_open 20 = .ok (.getfield 28, 3) := by decide +kernel
theorem d_World_open_23 : decode c_World_open 23 = .ok (.iconst 0, 1) := by decide +kernel
theorem d_World_open_24 : decode c_World_open 24 = .ok (.putfield 46, 3) := by decide +kernel
theorem d_World_open_27 : decode c_World_open 27 = .ok (.return_, 1) := by decide +kernel
abbrev c_World_copyFrom : ByteArray := prog_12_method_3_code
def y_World_copyFrom : MethodName := ⟨RX10, "copyFrom", "(LErrataRow$World;)V"⟩
theorem d_World_copyFrom_0 : decode c_World_copyFrom 0 = .ok (.aload_n 0, 1) := by decide +kernel
theorem d_World_copyFrom_1 : decode c_World_copyFrom 1 = .ok (.getfield 12, 3) := by decide +kernel
theorem d_World_copyFrom_4 : decode c_World_copyFrom 4 = .ok (.aload_n 1, 1) := by decide +kernel
theorem d_World_copyFrom_5 : decode c_World_copyFrom 5 = .ok (.getfield 12, 3) := by decide +kernel
theorem d_World_copyFrom_8 : decode c_World_copyFrom 8 = .ok (.invokevirtual 36, 3) := by decide +kernel
theorem d_World_copyFrom_11 : decode c_World_copyFrom 11 = .ok (.aload_n 0, 1) := by decide +kernel
theorem d_World_copyFrom_12 : decode c_World_copyFrom 12 = .ok (.getfield 21, 3) := by decide +kernel
theorem d_World_copyFrom_15 : decode c_World_copyFrom 15 = .ok (.aload_n 1, 1) := by decide +kernel
theorem d_World_copyFrom_16 : decode c_World_copyFrom 16 = .ok (.getfield 21, 3) := by decide +kernel
theorem d_World_copyFrom_19 : decode c_World_copyFrom 19 = .ok (.invokevirtual 43, 3) := by decide +kernel
theorem d_World_copyFrom_22 : decode c_World_copyFrom 22 = .ok (.aload_n 0, 1) := by decide +kernel
theorem d_World_copyFrom_23 : decode c_World_copyFrom 23 = .ok (.getfield 28, 3) := by decide +kernel
theorem d_World_copyFrom_26 : decode c_World_copyFrom 26 = .ok (.aload_n 1, 1) := by decide +kernel
theorem d_World_copyFrom_27 : decode c_World_copyFrom 27 = .ok (.getfield 28, 3) := by decide +kernel
theorem d_World_copyFrom_30 : decode c_World_copyFrom 30 = .ok (.invokevirtual 49, 3) := by decide +kernel
theorem d_World_copyFrom_33 : decode c_World_copyFrom 33 = .ok (.aload_n 0, 1) := by decide +kernel
theorem d_World_copyFrom_34 : decode c_World_copyFrom 34 = .ok (.aload_n 1, 1) := by decide +kernel
theorem d_World_copyFrom_35 : decode c_World_copyFrom 35 = .ok (.getfield 32, 3) := by decide +kernel
theorem d_World_copyFrom_38 : decode c_World_copyFrom 38 = .ok (.putfield 32, 3) := by decide +kernel
theorem d_World_copyFrom_41 : decode c_World_copyFrom 41 = .ok (.aload_n 0, 1) := by decide +kernel
theorem d_World_copyFrom_42 : decode c_World_copyFrom 42 = .ok (.aload_n 1, 1) := by decide +kernel
theorem d_World_copyFrom_43 : decode c_World_copyFrom 43 = .ok (.getfield 52, 3) := by decide +kernel
theorem d_World_copyFrom_46 : decode c_World_copyFrom 46 = .ok (.putfield 52, 3) := by decide +kernel
theorem d_World_copyFrom_49 : decode c_World_copyFrom 49 = .ok (.return_, 1) := by decide +kernel
abbrev c_ErrataRow_init : ByteArray := prog_1_method_1_code
def y_ErrataRow_init : MethodName := ⟨RX11, "<init>", "()V"⟩
theorem d_ErrataRow_init_0 : decode c_ErrataRow_init 0 = .ok (.aload_n 0, 1) := by decide +kernel
theorem d_ErrataRow_init_1 : decode c_ErrataRow_init 1 = .ok (.invokespecial 1, 3) := by decide +kernel
theorem d_ErrataRow_init_4 : decode c_ErrataRow_init 4 = .ok (.aload_n 0, 1) := by decide +kernel
theorem d_ErrataRow_init_5 : decode c_ErrataRow_init 5 = .ok (.sipush 400, 3) := by decide +kernel
theorem d_ErrataRow_init_8 : decode c_ErrataRow_init 8 = .ok (.newarray .int, 2) := by decide +kernel
theorem d_ErrataRow_init_10 : decode c_ErrataRow_init 10 = .ok (.putfield 9, 3) := by decide +kernel
theorem d_ErrataRow_init_13 : decode c_ErrataRow_init 13 = .ok (.aload_n 0, 1) := by decide +kernel
theorem d_ErrataRow_init_14 : decode c_ErrataRow_init 14 = .ok (.new 13, 3) := by decide +kernel
theorem d_ErrataRow_init_17 : decode c_ErrataRow_init 17 = .ok (.dup, 1) := by decide +kernel
theorem d_ErrataRow_init_18 : decode c_ErrataRow_init 18 = .ok (.invokespecial 15, 3) := by decide +kernel
theorem d_ErrataRow_init_21 : decode c_ErrataRow_init 21 = .ok (.putfield 16, 3) := by decide +kernel
theorem d_ErrataRow_init_24 : decode c_ErrataRow_init 24 = .ok (.aload_n 0, 1) := by decide +kernel
theorem d_ErrataRow_init_25 : decode c_ErrataRow_init 25 = .ok (.new 20, 3) := by decide +kernel
theorem d_ErrataRow_init_28 : decode c_ErrataRow_init 28 = .ok (.dup, 1) := by decide +kernel
theorem d_ErrataRow_init_29 : decode c_ErrataRow_init 29 = .ok (.aload_n 0, 1) := by decide +kernel
theorem d_ErrataRow_init_30 : decode c_ErrataRow_init 30 = .ok (.getfield 16, 3) := by decide +kernel
theorem d_ErrataRow_init_33 : decode c_ErrataRow_init 33 = .ok (.invokespecial 22, 3) := by decide +kernel
theorem d_ErrataRow_init_36 : decode c_ErrataRow_init 36 = .ok (.putfield 25, 3) := by decide +kernel
theorem d_ErrataRow_init_39 : decode c_ErrataRow_init 39 = .ok (.aload_n 0, 1) := by decide +kernel
theorem d_ErrataRow_init_40 : decode c_ErrataRow_init 40 = .ok (.new 29, 3) := by decide +kernel
theorem d_ErrataRow_init_43 : decode c_ErrataRow_init 43 = .ok (.dup, 1) := by decide +kernel
theorem d_ErrataRow_init_44 : decode c_ErrataRow_init 44 = .ok (.aload_n 0, 1) := by decide +kernel
theorem d_ErrataRow_init_45 : decode c_ErrataRow_init 45 = .ok (.getfield 16, 3) := by decide +kernel
theorem d_ErrataRow_init_48 : decode c_ErrataRow_init 48 = .ok (.invokespecial 31, 3) := by decide +kernel
theorem d_ErrataRow_init_51 : decode c_ErrataRow_init 51 = .ok (.putfield 32, 3) := by decide +kernel
theorem d_ErrataRow_init_54 : decode c_ErrataRow_init 54 = .ok (.aload_n 0, 1) := by decide +kernel
theorem d_ErrataRow_init_55 : decode c_ErrataRow_init 55 = .ok (.bipush 6, 2) := by decide +kernel
theorem d_ErrataRow_init_57 : decode c_ErrataRow_init 57 = .ok (.anewarray 36, 3) := by decide +kernel
theorem d_ErrataRow_init_60 : decode c_ErrataRow_init 60 = .ok (.putfield 38, 3) := by decide +kernel
theorem d_ErrataRow_init_63 : decode c_ErrataRow_init 63 = .ok (.aload_n 0, 1) := by decide +kernel
theorem d_ErrataRow_init_64 : decode c_ErrataRow_init 64 = .ok (.new 42, 3) := by decide +kernel
theorem d_ErrataRow_init_67 : decode c_ErrataRow_init 67 = .ok (.dup, 1) := by decide +kernel
theorem d_ErrataRow_init_68 : decode c_ErrataRow_init 68 = .ok (.invokespecial 44, 3) := by decide +kernel
theorem d_ErrataRow_init_71 : decode c_ErrataRow_init 71 = .ok (.putfield 45, 3) := by decide +kernel
theorem d_ErrataRow_init_74 : decode c_ErrataRow_init 74 = .ok (.aload_n 0, 1) := by decide +kernel
theorem d_ErrataRow_init_75 : decode c_ErrataRow_init 75 = .ok (.iconst 4, 1) := by decide +kernel
theorem d_ErrataRow_init_76 : decode c_ErrataRow_init 76 = .ok (.anewarray 42, 3) := by decide +kernel
theorem d_ErrataRow_init_79 : decode c_ErrataRow_init 79 = .ok (.putfield 49, 3) := by decide +kernel
theorem d_ErrataRow_init_82 : decode c_ErrataRow_init 82 = .ok (.aload_n 0, 1) := by decide +kernel
theorem d_ErrataRow_init_83 : decode c_ErrataRow_init 83 = .ok (.new 53, 3) := by decide +kernel
theorem d_ErrataRow_init_86 : decode c_ErrataRow_init 86 = .ok (.dup, 1) := by decide +kernel
theorem d_ErrataRow_init_87 : decode c_ErrataRow_init 87 = .ok (.invokespecial 55, 3) := by decide +kernel
theorem d_ErrataRow_init_90 : decode c_ErrataRow_init 90 = .ok (.putfield 56, 3) := by decide +kernel
theorem d_ErrataRow_init_93 : decode c_ErrataRow_init 93 = .ok (.aload_n 0, 1) := by decide +kernel
theorem d_ErrataRow_init_94 : decode c_ErrataRow_init 94 = .ok (.new 60, 3) := by decide +kernel
theorem d_ErrataRow_init_97 : decode c_ErrataRow_init 97 = .ok (.dup, 1) := by decide +kernel
theorem d_ErrataRow_init_98 : decode c_ErrataRow_init 98 = .ok (.aload_n 0, 1) := by decide +kernel
theorem d_ErrataRow_init_99 : decode c_ErrataRow_init 99 = .ok (.getfield 45, 3) := by decide +kernel
theorem d_ErrataRow_init_102 : decode c_ErrataRow_init 102 = .ok (.getfield 62, 3) := by decide +kernel
theorem d_ErrataRow_init_105 : decode c_ErrataRow_init 105 = .ok (.invokespecial 66, 3) := by decide +kernel
theorem d_ErrataRow_init_108 : decode c_ErrataRow_init 108 = .ok (.putfield 69, 3) := by decide +kernel
theorem d_ErrataRow_init_111 : decode c_ErrataRow_init 111 = .ok (.aload_n 0, 1) := by decide +kernel
theorem d_ErrataRow_init_112 : decode c_ErrataRow_init 112 = .ok (.new 73, 3) := by decide +kernel
theorem d_ErrataRow_init_115 : decode c_ErrataRow_init 115 = .ok (.dup, 1) := by decide +kernel
theorem d_ErrataRow_init_116 : decode c_ErrataRow_init 116 = .ok (.aload_n 0, 1) := by decide +kernel
theorem d_ErrataRow_init_117 : decode c_ErrataRow_init 117 = .ok (.getfield 69, 3) := by decide +kernel
theorem d_ErrataRow_init_120 : decode c_ErrataRow_init 120 = .ok (.invokespecial 75, 3) := by decide +kernel
theorem d_ErrataRow_init_123 : decode c_ErrataRow_init 123 = .ok (.putfield 78, 3) := by decide +kernel
theorem d_ErrataRow_init_126 : decode c_ErrataRow_init 126 = .ok (.aload_n 0, 1) := by decide +kernel
theorem d_ErrataRow_init_127 : decode c_ErrataRow_init 127 = .ok (.new 82, 3) := by decide +kernel
theorem d_ErrataRow_init_130 : decode c_ErrataRow_init 130 = .ok (.dup, 1) := by decide +kernel
theorem d_ErrataRow_init_131 : decode c_ErrataRow_init 131 = .ok (.invokespecial 84, 3) := by decide +kernel
theorem d_ErrataRow_init_134 : decode c_ErrataRow_init 134 = .ok (.putfield 85, 3) := by decide +kernel
theorem d_ErrataRow_init_137 : decode c_ErrataRow_init 137 = .ok (.aload_n 0, 1) := by decide +kernel
theorem d_ErrataRow_init_138 : decode c_ErrataRow_init 138 = .ok (.iconst 3, 1) := by decide +kernel
theorem d_ErrataRow_init_139 : decode c_ErrataRow_init 139 = .ok (.newarray .int, 2) := by decide +kernel
theorem d_ErrataRow_init_141 : decode c_ErrataRow_init 141 = .ok (.putfield 89, 3) := by decide +kernel
theorem d_ErrataRow_init_144 : decode c_ErrataRow_init 144 = .ok (.aload_n 0, 1) := by decide +kernel
theorem d_ErrataRow_init_145 : decode c_ErrataRow_init 145 = .ok (.bipush 61, 2) := by decide +kernel
theorem d_ErrataRow_init_147 : decode c_ErrataRow_init 147 = .ok (.newarray .int, 2) := by decide +kernel
theorem d_ErrataRow_init_149 : decode c_ErrataRow_init 149 = .ok (.putfield 92, 3) := by decide +kernel
theorem d_ErrataRow_init_152 : decode c_ErrataRow_init 152 = .ok (.aload_n 0, 1) := by decide +kernel
theorem d_ErrataRow_init_153 : decode c_ErrataRow_init 153 = .ok (.sipush 128, 3) := by decide +kernel
theorem d_ErrataRow_init_156 : decode c_ErrataRow_init 156 = .ok (.newarray .int, 2) := by decide +kernel
theorem d_ErrataRow_init_158 : decode c_ErrataRow_init 158 = .ok (.putfield 95, 3) := by decide +kernel
theorem d_ErrataRow_init_161 : decode c_ErrataRow_init 161 = .ok (.return_, 1) := by decide +kernel
abbrev c_ErrataRow_feed : ByteArray := prog_1_method_2_code
def y_ErrataRow_feed : MethodName := ⟨RX11, "feed", "(IIIII)I"⟩
theorem d_ErrataRow_feed_0 : decode c_ErrataRow_feed 0 = .ok (.aload_n 0, 1) := by decide +kernel
theorem d_ErrataRow_feed_1 : decode c_ErrataRow_feed 1 = .ok (.getfield 98, 3) := by decide +kernel
theorem d_ErrataRow_feed_4 : decode c_ErrataRow_feed 4 = .ok (.bipush 20, 2) := by decide +kernel
theorem d_ErrataRow_feed_6 : decode c_ErrataRow_feed 6 = .ok (.iadd, 1) := by decide +kernel
theorem d_ErrataRow_feed_7 : decode c_ErrataRow_feed 7 = .ok (.sipush 400, 3) := by decide +kernel
theorem d_ErrataRow_feed_10 : decode c_ErrataRow_feed 10 = .ok (.if_icmp .le 5, 3) := by decide +kernel
theorem d_ErrataRow_feed_13 : decode c_ErrataRow_feed 13 = .ok (.iconst (-1), 1) := by decide +kernel
theorem d_ErrataRow_feed_14 : decode c_ErrataRow_feed 14 = .ok (.ireturn, 1) := by decide +kernel
theorem d_ErrataRow_feed_15 : decode c_ErrataRow_feed 15 = .ok (.aload_n 0, 1) := by decide +kernel
theorem d_ErrataRow_feed_16 : decode c_ErrataRow_feed 16 = .ok (.iload_n 1, 1) := by decide +kernel
theorem d_ErrataRow_feed_17 : decode c_ErrataRow_feed 17 = .ok (.invokevirtual 102, 3) := by decide +kernel
theorem d_ErrataRow_feed_20 : decode c_ErrataRow_feed 20 = .ok (.aload_n 0, 1) := by decide +kernel
theorem d_ErrataRow_feed_21 : decode c_ErrataRow_feed 21 = .ok (.iload_n 2, 1) := by decide +kernel
theorem d_ErrataRow_feed_22 : decode c_ErrataRow_feed 22 = .ok (.invokevirtual 102, 3) := by decide +kernel
theorem d_ErrataRow_feed_25 : decode c_ErrataRow_feed 25 = .ok (.aload_n 0, 1) := by decide +kernel
theorem d_ErrataRow_feed_26 : decode c_ErrataRow_feed 26 = .ok (.iload_n 3, 1) := by decide +kernel
theorem d_ErrataRow_feed_27 : decode c_ErrataRow_feed 27 = .ok (.invokevirtual 102, 3) := by decide +kernel
theorem d_ErrataRow_feed_30 : decode c_ErrataRow_feed 30 = .ok (.aload_n 0, 1) := by decide +kernel
theorem d_ErrataRow_feed_31 : decode c_ErrataRow_feed 31 = .ok (.iload 4, 2) := by decide +kernel
theorem d_ErrataRow_feed_33 : decode c_ErrataRow_feed 33 = .ok (.invokevirtual 102, 3) := by decide +kernel
theorem d_ErrataRow_feed_36 : decode c_ErrataRow_feed 36 = .ok (.aload_n 0, 1) := by decide +kernel
theorem d_ErrataRow_feed_37 : decode c_ErrataRow_feed 37 = .ok (.iload 5, 2) := by decide +kernel
theorem d_ErrataRow_feed_39 : decode c_ErrataRow_feed 39 = .ok (.invokevirtual 102, 3) := by decide +kernel
theorem d_ErrataRow_feed_42 : decode c_ErrataRow_feed 42 = .ok (.aload_n 0, 1) := by decide +kernel
theorem d_ErrataRow_feed_43 : decode c_ErrataRow_feed 43 = .ok (.getfield 98, 3) := by decide +kernel
theorem d_ErrataRow_feed_46 : decode c_ErrataRow_feed 46 = .ok (.ireturn, 1) := by decide +kernel
abbrev c_ErrataRow_putBytes : ByteArray := prog_1_method_3_code
def y_ErrataRow_putBytes : MethodName := ⟨RX11, "putBytes", "(I)V"⟩
theorem d_ErrataRow_putBytes_0 : decode c_ErrataRow_putBytes 0 = .ok (.bipush 24, 2) := by decide +kernel
theorem d_ErrataRow_putBytes_2 : decode c_ErrataRow_putBytes 2 = .ok (.istore_n 2, 1) := by decide +kernel
theorem d_ErrataRow_putBytes_3 : decode c_ErrataRow_putBytes 3 = .ok (.iload_n 2, 1) := by decide +kernel
theorem d_ErrataRow_putBytes_4 : decode c_ErrataRow_putBytes 4 = .ok (.ifCond .lt 45, 3) := by decide +kernel
theorem d_ErrataRow_putBytes_7 : decode c_ErrataRow_putBytes 7 = .ok (.aload_n 0, 1) := by decide +kernel
theorem d_ErrataRow_putBytes_8 : decode c_ErrataRow_putBytes 8 = .ok (.getfield 98, 3) := by decide +kernel
theorem d_ErrataRow_putBytes_11 : decode c_ErrataRow_putBytes 11 = .ok (.sipush 400, 3) := by decide +kernel
theorem d_ErrataRow_putBytes_14 : decode c_ErrataRow_putBytes 14 = .ok (.if_icmp .ge 35, 3) := by decide +kernel
theorem d_ErrataRow_putBytes_17 : decode c_ErrataRow_putBytes 17 = .ok (.aload_n 0, 1) := by decide +kernel
theorem d_ErrataRow_putBytes_18 : decode c_ErrataRow_putBytes 18 = .ok (.getfield 9, 3) := by decide +kernel
theorem d_ErrataRow_putBytes_21 : decode c_ErrataRow_putBytes 21 = .ok (.aload_n 0, 1) := by decide +kernel
theorem d_ErrataRow_putBytes_22 : decode c_ErrataRow_putBytes 22 = .ok (.getfield 98, 3) := by decide +kernel
theorem d_ErrataRow_putBytes_25 : decode c_ErrataRow_putBytes 25 = .ok (.iload_n 1, 1) := by decide +kernel
theorem d_ErrataRow_putBytes_26 : decode c_ErrataRow_putBytes 26 = .ok (.iload_n 2, 1) := by decide +kernel
theorem d_ErrataRow_putBytes_27 : decode c_ErrataRow_putBytes 27 = .ok (.iushr, 1) := by decide +kernel
theorem d_ErrataRow_putBytes_28 : decode c_ErrataRow_putBytes 28 = .ok (.sipush 255, 3) := by decide +kernel
theorem d_ErrataRow_putBytes_31 : decode c_ErrataRow_putBytes 31 = .ok (.iand, 1) := by decide +kernel
theorem d_ErrataRow_putBytes_32 : decode c_ErrataRow_putBytes 32 = .ok (.iastore, 1) := by decide +kernel
theorem d_ErrataRow_putBytes_33 : decode c_ErrataRow_putBytes 33 = .ok (.aload_n 0, 1) := by decide +kernel
theorem d_ErrataRow_putBytes_34 : decode c_ErrataRow_putBytes 34 = .ok (.dup, 1) := by decide +kernel
theorem d_ErrataRow_putBytes_35 : decode c_ErrataRow_putBytes 35 = .ok (.getfield 98, 3) := by decide +kernel
theorem d_ErrataRow_putBytes_38 : decode c_ErrataRow_putBytes 38 = .ok (.iconst 1, 1) := by decide +kernel
theorem d_ErrataRow_putBytes_39 : decode c_ErrataRow_putBytes 39 = .ok (.iadd, 1) := by decide +kernel
theorem d_ErrataRow_putBytes_40 : decode c_ErrataRow_putBytes 40 = .ok (.putfield 98, 3) := by decide +kernel
theorem d_ErrataRow_putBytes_43 : decode c_ErrataRow_putBytes 43 = .ok (.iinc 2 (-8), 3) := by decide +kernel
theorem d_ErrataRow_putBytes_46 : decode c_ErrataRow_putBytes 46 = .ok (.goto (-43), 3) := by decide +kernel
theorem d_ErrataRow_putBytes_49 : decode c_ErrataRow_putBytes 49 = .ok (.return_, 1) := by decide +kernel
abbrev c_ErrataRow_end : ByteArray := prog_1_method_4_code
def y_ErrataRow_end : MethodName := ⟨RX11, "end", "(I)I"⟩
theorem d_ErrataRow_end_0 : decode c_ErrataRow_end 0 = .ok (.iload_n 1, 1) := by decide +kernel
theorem d_ErrataRow_end_1 : decode c_ErrataRow_end 1 = .ok (.ifCond .lt 11, 3) := by decide +kernel
theorem d_ErrataRow_end_4 : decode c_ErrataRow_end 4 = .ok (.iload_n 1, 1) := by decide +kernel
theorem d_ErrataRow_end_5 : decode c_ErrataRow_end 5 = .ok (.aload_n 0, 1) := by decide +kernel
theorem d_ErrataRow_end_6 : decode c_ErrataRow_end 6 = .ok (.getfield 98, 3) := by decide +kernel
theorem d_ErrataRow_end_9 : decode c_ErrataRow_end 9 = .ok (.if_icmp .le 5, 3) := by decide +kernel
theorem d_ErrataRow_end_12 : decode c_ErrataRow_end 12 = .ok (.iconst (-1), 1) := by decide +kernel
theorem d_ErrataRow_end_13 : decode c_ErrataRow_end 13 = .ok (.ireturn, 1) := by decide +kernel
theorem d_ErrataRow_end_14 : decode c_ErrataRow_end 14 = .ok (.aload_n 0, 1) := by decide +kernel
theorem d_ErrataRow_end_15 : decode c_ErrataRow_end 15 = .ok (.iload_n 1, 1) := by decide +kernel
theorem d_ErrataRow_end_16 : decode c_ErrataRow_end 16 = .ok (.putfield 98, 3) := by decide +kernel
theorem d_ErrataRow_end_19 : decode c_ErrataRow_end 19 = .ok (.iload_n 1, 1) := by decide +kernel
theorem d_ErrataRow_end_20 : decode c_ErrataRow_end 20 = .ok (.ireturn, 1) := by decide +kernel
abbrev c_ErrataRow_book : ByteArray := prog_1_method_5_code
def y_ErrataRow_book : MethodName := ⟨RX11, "book", "()I"⟩
theorem d_ErrataRow_book_0 : decode c_ErrataRow_book 0 = .ok (.aload_n 0, 1) := by decide +kernel
theorem d_ErrataRow_book_1 : decode c_ErrataRow_book 1 = .ok (.getfield 16, 3) := by decide +kernel
theorem d_ErrataRow_book_4 : decode c_ErrataRow_book 4 = .ok (.aload_n 0, 1) := by decide +kernel
theorem d_ErrataRow_book_5 : decode c_ErrataRow_book 5 = .ok (.getfield 9, 3) := by decide +kernel
theorem d_ErrataRow_book_8 : decode c_ErrataRow_book 8 = .ok (.aload_n 0, 1) := by decide +kernel
theorem d_ErrataRow_book_9 : decode c_ErrataRow_book 9 = .ok (.getfield 98, 3) := by decide +kernel
theorem d_ErrataRow_book_12 : decode c_ErrataRow_book 12 = .ok (.invokevirtual 106, 3) := by decide +kernel
theorem d_ErrataRow_book_15 : decode c_ErrataRow_book 15 = .ok (.aload_n 0, 1) := by decide +kernel
theorem d_ErrataRow_book_16 : decode c_ErrataRow_book 16 = .ok (.iconst 0, 1) := by decide +kernel
theorem d_ErrataRow_book_17 : decode c_ErrataRow_book 17 = .ok (.putfield 98, 3) := by decide +kernel
theorem d_ErrataRow_book_20 : decode c_ErrataRow_book 20 = .ok (.aload_n 0, 1) := by decide +kernel
theorem d_ErrataRow_book_21 : decode c_ErrataRow_book 21 = .ok (.getfield 25, 3) := by decide +kernel
theorem d_ErrataRow_book_24 : decode c_ErrataRow_book 24 = .ok (.invokevirtual 110, 3) := by decide +kernel
theorem d_ErrataRow_book_27 : decode c_ErrataRow_book 27 = .ok (.istore_n 1, 1) := by decide +kernel
theorem d_ErrataRow_book_28 : decode c_ErrataRow_book 28 = .ok (.iload_n 1, 1) := by decide +kernel
theorem d_ErrataRow_book_29 : decode c_ErrataRow_book 29 = .ok (.ifCond .eq 8, 3) := by decide +kernel
theorem d_ErrataRow_book_32 : decode c_ErrataRow_book 32 = .ok (.bipush (-2), 2) := by decide +kernel
theorem d_ErrataRow_book_34 : decode c_ErrataRow_book 34 = .ok (.iload_n 1, 1) := by decide +kernel
theorem d_ErrataRow_book_35 : decode c_ErrataRow_book 35 = .ok (.isub, 1) := by decide +kernel
theorem d_ErrataRow_book_36 : decode c_ErrataRow_book 36 = .ok (.ireturn, 1) := by decide +kernel
theorem d_ErrataRow_book_37 : decode c_ErrataRow_book 37 = .ok (.aload_n 0, 1) := by decide +kernel
theorem d_ErrataRow_book_38 : decode c_ErrataRow_book 38 = .ok (.getfield 45, 3) := by decide +kernel
theorem d_ErrataRow_book_41 : decode c_ErrataRow_book 41 = .ok (.aload_n 0, 1) := by decide +kernel
theorem d_ErrataRow_book_42 : decode c_ErrataRow_book 42 = .ok (.getfield 25, 3) := by decide +kernel
theorem d_ErrataRow_book_45 : decode c_ErrataRow_book 45 = .ok (.getfield 114, 3) := by decide +kernel
theorem d_ErrataRow_book_48 : decode c_ErrataRow_book 48 = .ok (.invokevirtual 117, 3) := by decide +kernel
theorem d_ErrataRow_book_51 : decode c_ErrataRow_book 51 = .ok (.aload_n 0, 1) := by decide +kernel
theorem d_ErrataRow_book_52 : decode c_ErrataRow_book 52 = .ok (.getfield 56, 3) := by decide +kernel
theorem d_ErrataRow_book_55 : decode c_ErrataRow_book 55 = .ok (.invokevirtual 120, 3) := by decide +kernel
theorem d_ErrataRow_book_58 : decode c_ErrataRow_book 58 = .ok (.aload_n 0, 1) := by decide +kernel
theorem d_ErrataRow_book_59 : decode c_ErrataRow_book 59 = .ok (.getfield 45, 3) := by decide +kernel
theorem d_ErrataRow_book_62 : decode c_ErrataRow_book 62 = .ok (.getfield 62, 3) := by decide +kernel
theorem d_ErrataRow_book_65 : decode c_ErrataRow_book 65 = .ok (.getfield 123, 3) := by decide +kernel
theorem d_ErrataRow_book_68 : decode c_ErrataRow_book 68 = .ok (.ireturn, 1) := by decide +kernel
abbrev c_ErrataRow_rule : ByteArray := prog_1_method_6_code
def y_ErrataRow_rule : MethodName := ⟨RX11, "rule", "()I"⟩
theorem d_ErrataRow_rule_0 : decode c_ErrataRow_rule 0 = .ok (.aload_n 0, 1) := by decide +kernel
theorem d_ErrataRow_rule_1 : decode c_ErrataRow_rule 1 = .ok (.getfield 128, 3) := by decide +kernel
theorem d_ErrataRow_rule_4 : decode c_ErrataRow_rule 4 = .ok (.bipush 6, 2) := by decide +kernel
theorem d_ErrataRow_rule_6 : decode c_ErrataRow_rule 6 = .ok (.if_icmp .lt 5, 3) := by decide +kernel
theorem d_ErrataRow_rule_9 : decode c_ErrataRow_rule 9 = .ok (.iconst (-1), 1) := by decide +kernel
theorem d_ErrataRow_rule_10 : decode c_ErrataRow_rule 10 = .ok (.ireturn, 1) := by decide +kernel
theorem d_ErrataRow_rule_11 : decode c_ErrataRow_rule 11 = .ok (.aload_n 0, 1) := by decide +kernel
theorem d_ErrataRow_rule_12 : decode c_ErrataRow_rule 12 = .ok (.getfield 16, 3) := by decide +kernel
theorem d_ErrataRow_rule_15 : decode c_ErrataRow_rule 15 = .ok (.aload_n 0, 1) := by decide +kernel
theorem d_ErrataRow_rule_16 : decode c_ErrataRow_rule 16 = .ok (.getfield 9, 3) := by decide +kernel
theorem d_ErrataRow_rule_19 : decode c_ErrataRow_rule 19 = .ok (.aload_n 0, 1) := by decide +kernel
theorem d_ErrataRow_rule_20 : decode c_ErrataRow_rule 20 = .ok (.getfield 98, 3) := by decide +kernel
theorem d_ErrataRow_rule_23 : decode c_ErrataRow_rule 23 = .ok (.invokevirtual 106, 3) := by decide +kernel
theorem d_ErrataRow_rule_26 : decode c_ErrataRow_rule 26 = .ok (.aload_n 0, 1) := by decide +kernel
theorem d_ErrataRow_rule_27 : decode c_ErrataRow_rule 27 = .ok (.iconst 0, 1) := by decide +kernel
theorem d_ErrataRow_rule_28 : decode c_ErrataRow_rule 28 = .ok (.putfield 98, 3) := by decide +kernel
theorem d_ErrataRow_rule_31 : decode c_ErrataRow_rule 31 = .ok (.aload_n 0, 1) := by decide +kernel
theorem d_ErrataRow_rule_32 : decode c_ErrataRow_rule 32 = .ok (.getfield 32, 3) := by decide +kernel
theorem d_ErrataRow_rule_35 : decode c_ErrataRow_rule 35 = .ok (.invokevirtual 131, 3) := by decide +kernel
theorem d_ErrataRow_rule_38 : decode c_ErrataRow_rule 38 = .ok (.istore_n 1, 1) := by decide +kernel
theorem d_ErrataRow_rule_39 : decode c_ErrataRow_rule 39 = .ok (.iload_n 1, 1) := by decide +kernel
theorem d_ErrataRow_rule_40 : decode c_ErrataRow_rule 40 = .ok (.ifCond .eq 8, 3) := by decide +kernel
theorem d_ErrataRow_rule_43 : decode c_ErrataRow_rule 43 = .ok (.bipush (-2), 2) := by decide +kernel
theorem d_ErrataRow_rule_45 : decode c_ErrataRow_rule 45 = .ok (.iload_n 1, 1) := by decide +kernel
theorem d_ErrataRow_rule_46 : decode c_ErrataRow_rule 46 = .ok (.isub, 1) := by decide +kernel
theorem d_ErrataRow_rule_47 : decode c_ErrataRow_rule 47 = .ok (.ireturn, 1) := by decide +kernel
theorem d_ErrataRow_rule_48 : decode c_ErrataRow_rule 48 = .ok (.aload_n 0, 1) := by decide +kernel
theorem d_ErrataRow_rule_49 : decode c_ErrataRow_rule 49 = .ok (.getfield 38, 3) := by decide +kernel
theorem d_ErrataRow_rule_52 : decode c_ErrataRow_rule 52 = .ok (.aload_n 0, 1) := by decide +kernel
theorem d_ErrataRow_rule_53 : decode c_ErrataRow_rule 53 = .ok (.getfield 128, 3) := by decide +kernel
theorem d_ErrataRow_rule_56 : decode c_ErrataRow_rule 56 = .ok (.aload_n 0, 1) := by decide +kernel
theorem d_ErrataRow_rule_57 : decode c_ErrataRow_rule 57 = .ok (.getfield 32, 3) := by decide +kernel
theorem d_ErrataRow_rule_60 : decode c_ErrataRow_rule 60 = .ok (.invokevirtual 134, 3) := by decide +kernel
theorem d_ErrataRow_rule_63 : decode c_ErrataRow_rule 63 = .ok (.aastore, 1) := by decide +kernel
theorem d_ErrataRow_rule_64 : decode c_ErrataRow_rule 64 = .ok (.aload_n 0, 1) := by decide +kernel
theorem d_ErrataRow_rule_65 : decode c_ErrataRow_rule 65 = .ok (.dup, 1) := by decide +kernel
theorem d_ErrataRow_rule_66 : decode c_ErrataRow_rule 66 = .ok (.getfield 128, 3) := by decide +kernel
theorem d_ErrataRow_rule_69 : decode c_ErrataRow_rule 69 = .ok (.iconst 1, 1) := by decide +kernel
theorem d_ErrataRow_rule_70 : decode c_ErrataRow_rule 70 = .ok (.iadd, 1) := by decide +kernel
theorem d_ErrataRow_rule_71 : decode c_ErrataRow_rule 71 = .ok (.putfield 128, 3) := by decide +kernel
theorem d_ErrataRow_rule_74 : decode c_ErrataRow_rule 74 = .ok (.aload_n 0, 1) := by decide +kernel
theorem d_ErrataRow_rule_75 : decode c_ErrataRow_rule 75 = .ok (.getfield 128, 3) := by decide +kernel
theorem d_ErrataRow_rule_78 : decode c_ErrataRow_rule 78 = .ok (.iconst 1, 1) := by decide +kernel
theorem d_ErrataRow_rule_79 : decode c_ErrataRow_rule 79 = .ok (.isub, 1) := by decide +kernel
theorem d_ErrataRow_rule_80 : decode c_ErrataRow_rule 80 = .ok (.ireturn, 1) := by decide +kernel
abbrev c_ErrataRow_force : ByteArray := prog_1_method_7_code
def y_ErrataRow_force : MethodName := ⟨RX11, "force", "(I)I"⟩
theorem d_ErrataRow_force_0 : decode c_ErrataRow_force 0 = .ok (.iload_n 1, 1) := by decide +kernel
theorem d_ErrataRow_force_1 : decode c_ErrataRow_force 1 = .ok (.iconst (-1), 1) := by decide +kernel
theorem d_ErrataRow_force_2 : decode c_ErrataRow_force 2 = .ok (.if_icmp .lt 11, 3) := by decide +kernel
theorem d_ErrataRow_force_5 : decode c_ErrataRow_force 5 = .ok (.iload_n 1, 1) := by decide +kernel
theorem d_ErrataRow_force_6 : decode c_ErrataRow_force 6 = .ok (.aload_n 0, 1) := by decide +kernel
theorem d_ErrataRow_force_7 : decode c_ErrataRow_force 7 = .ok (.getfield 128, 3) := by decide +kernel
theorem d_ErrataRow_force_10 : decode c_ErrataRow_force 10 = .ok (.if_icmp .lt 6, 3) := by decide +kernel
theorem d_ErrataRow_force_13 : decode c_ErrataRow_force 13 = .ok (.bipush (-2), 2) := by decide +kernel
theorem d_ErrataRow_force_15 : decode c_ErrataRow_force 15 = .ok (.ireturn, 1) := by decide +kernel
theorem d_ErrataRow_force_16 : decode c_ErrataRow_force 16 = .ok (.aload_n 0, 1) := by decide +kernel
theorem d_ErrataRow_force_17 : decode c_ErrataRow_force 17 = .ok (.getfield 45, 3) := by decide +kernel
theorem d_ErrataRow_force_20 : decode c_ErrataRow_force 20 = .ok (.getfield 138, 3) := by decide +kernel
theorem d_ErrataRow_force_23 : decode c_ErrataRow_force 23 = .ok (.istore_n 2, 1) := by decide +kernel
theorem d_ErrataRow_force_24 : decode c_ErrataRow_force 24 = .ok (.aload_n 0, 1) := by decide +kernel
theorem d_ErrataRow_force_25 : decode c_ErrataRow_force 25 = .ok (.getfield 45, 3) := by decide +kernel
theorem d_ErrataRow_force_28 : decode c_ErrataRow_force 28 = .ok (.iload_n 1, 1) := by decide +kernel
theorem d_ErrataRow_force_29 : decode c_ErrataRow_force 29 = .ok (.putfield 138, 3) := by decide +kernel
theorem d_ErrataRow_force_32 : decode c_ErrataRow_force 32 = .ok (.iload_n 2, 1) := by decide +kernel
theorem d_ErrataRow_force_33 : decode c_ErrataRow_force 33 = .ok (.ireturn, 1) := by decide +kernel
abbrev c_ErrataRow_ruleOf : ByteArray := prog_1_method_8_code
def y_ErrataRow_ruleOf : MethodName := ⟨RX11, "ruleOf", "(I)LErrataRow$Rule;"⟩
theorem d_ErrataRow_ruleOf_0 : decode c_ErrataRow_ruleOf 0 = .ok (.iload_n 1, 1) := by decide +kernel
theorem d_ErrataRow_ruleOf_1 : decode c_ErrataRow_ruleOf 1 = .ok (.ifCond .lt 20, 3) := by decide +kernel
theorem d_ErrataRow_ruleOf_4 : decode c_ErrataRow_ruleOf 4 = .ok (.iload_n 1, 1) := by decide +kernel
theorem d_ErrataRow_ruleOf_5 : decode c_ErrataRow_ruleOf 5 = .ok (.aload_n 0, 1) := by decide +kernel
theorem d_ErrataRow_ruleOf_6 : decode c_ErrataRow_ruleOf 6 = .ok (.getfield 128, 3) := by decide +kernel
theorem d_ErrataRow_ruleOf_9 : decode c_ErrataRow_ruleOf 9 = .ok (.if_icmp .ge 12, 3) := by decide +kernel
theorem d_ErrataRow_ruleOf_12 : decode c_ErrataRow_ruleOf 12 = .ok (.aload_n 0, 1) := by decide +kernel
theorem d_ErrataRow_ruleOf_13 : decode c_ErrataRow_ruleOf 13 = .ok (.getfield 38, 3) := by decide +kernel
theorem d_ErrataRow_ruleOf_16 : decode c_ErrataRow_ruleOf 16 = .ok (.iload_n 1, 1) := by decide +kernel
theorem d_ErrataRow_ruleOf_17 : decode c_ErrataRow_ruleOf 17 = .ok (.aaload, 1) := by decide +kernel
theorem d_ErrataRow_ruleOf_18 : decode c_ErrataRow_ruleOf 18 = .ok (.goto 4, 3) := by decide +kernel
theorem d_ErrataRow_ruleOf_21 : decode c_ErrataRow_ruleOf 21 = .ok (.aconst_null, 1) := by decide +kernel
theorem d_ErrataRow_ruleOf_22 : decode c_ErrataRow_ruleOf 22 = .ok (.areturn, 1) := by decide +kernel
abbrev c_ErrataRow_isLetter : ByteArray := prog_1_method_9_code
def y_ErrataRow_isLetter : MethodName := ⟨RX11, "isLetter", "(I)Z"⟩
theorem d_ErrataRow_isLetter_0 : decode c_ErrataRow_isLetter 0 = .ok (.iload_n 1, 1) := by decide +kernel
theorem d_ErrataRow_isLetter_1 : decode c_ErrataRow_isLetter 1 = .ok (.ifCond .lt 21, 3) := by decide +kernel
theorem d_ErrataRow_isLetter_4 : decode c_ErrataRow_isLetter 4 = .ok (.iload_n 1, 1) := by decide +kernel
theorem d_ErrataRow_isLetter_5 : decode c_ErrataRow_isLetter 5 = .ok (.aload_n 0, 1) := by decide +kernel
theorem d_ErrataRow_isLetter_6 : decode c_ErrataRow_isLetter 6 = .ok (.getfield 45, 3) := by decide +kernel
theorem d_ErrataRow_isLetter_9 : decode c_ErrataRow_isLetter 9 = .ok (.getfield 62, 3) := by decide +kernel
theorem d_ErrataRow_isLetter_12 : decode c_ErrataRow_isLetter 12 = .ok (.getfield 123, 3) := by decide +kernel
theorem d_ErrataRow_isLetter_15 : decode c_ErrataRow_isLetter 15 = .ok (.if_icmp .ge 7, 3) := by decide +kernel
theorem d_ErrataRow_isLetter_18 : decode c_ErrataRow_isLetter 18 = .ok (.iconst 1, 1) := by decide +kernel
theorem d_ErrataRow_isLetter_19 : decode c_ErrataRow_isLetter 19 = .ok (.goto 4, 3) := by decide +kernel
theorem d_ErrataRow_isLetter_22 : decode c_ErrataRow_isLetter 22 = .ok (.iconst 0, 1) := by decide +kernel
theorem d_ErrataRow_isLetter_23 : decode c_ErrataRow_isLetter 23 = .ok (.ireturn, 1) := by decide +kernel
abbrev c_ErrataRow_isPut : ByteArray := prog_1_method_10_code
def y_ErrataRow_isPut : MethodName := ⟨RX11, "isPut", "(I)Z"⟩
theorem d_ErrataRow_isPut_0 : decode c_ErrataRow_isPut 0 = .ok (.iload_n 0, 1) := by decide +kernel
theorem d_ErrataRow_isPut_1 : decode c_ErrataRow_isPut 1 = .ok (.ifCond .lt 13, 3) := by decide +kernel
theorem d_ErrataRow_isPut_4 : decode c_ErrataRow_isPut 4 = .ok (.iload_n 0, 1) := by decide +kernel
theorem d_ErrataRow_isPut_5 : decode c_ErrataRow_isPut 5 = .ok (.bipush 8, 2) := by decide +kernel
theorem d_ErrataRow_isPut_7 : decode c_ErrataRow_isPut 7 = .ok (.if_icmp .ge 7, 3) := by decide +kernel
theorem d_ErrataRow_isPut_10 : decode c_ErrataRow_isPut 10 = .ok (.iconst 1, 1) := by decide +kernel
theorem d_ErrataRow_isPut_11 : decode c_ErrataRow_isPut 11 = .ok (.goto 4, 3) := by decide +kernel
theorem d_ErrataRow_isPut_14 : decode c_ErrataRow_isPut 14 = .ok (.iconst 0, 1) := by decide +kernel
theorem d_ErrataRow_isPut_15 : decode c_ErrataRow_isPut 15 = .ok (.ireturn, 1) := by decide +kernel
abbrev c_ErrataRow_within : ByteArray := prog_1_method_11_code
def y_ErrataRow_within : MethodName := ⟨RX11, "within", "(III)Z"⟩
theorem d_ErrataRow_within_0 : decode c_ErrataRow_within 0 = .ok (.iload_n 0, 1) := by decide +kernel
theorem d_ErrataRow_within_1 : decode c_ErrataRow_within 1 = .ok (.iload_n 1, 1) := by decide +kernel
theorem d_ErrataRow_within_2 : decode c_ErrataRow_within 2 = .ok (.if_icmp .lt 12, 3) := by decide +kernel
theorem d_ErrataRow_within_5 : decode c_ErrataRow_within 5 = .ok (.iload_n 0, 1) := by decide +kernel
theorem d_ErrataRow_within_6 : decode c_ErrataRow_within 6 = .ok (.iload_n 2, 1) := by decide +kernel
theorem d_ErrataRow_within_7 : decode c_ErrataRow_within 7 = .ok (.if_icmp .gt 7, 3) := by decide +kernel
theorem d_ErrataRow_within_10 : decode c_ErrataRow_within 10 = .ok (.iconst 1, 1) := by decide +kernel
theorem d_ErrataRow_within_11 : decode c_ErrataRow_within 11 = .ok (.goto 4, 3) := by decide +kernel
theorem d_ErrataRow_within_14 : decode c_ErrataRow_within 14 = .ok (.iconst 0, 1) := by decide +kernel
theorem d_ErrataRow_within_15 : decode c_ErrataRow_within 15 = .ok (.ireturn, 1) := by decide +kernel
abbrev c_ErrataRow_letter : ByteArray := prog_1_method_12_code
def y_ErrataRow_letter : MethodName := ⟨RX11, "letter", "(II)I"⟩
theorem d_ErrataRow_letter_0 : decode c_ErrataRow_letter 0 = .ok (.aload_n 0, 1) := by decide +kernel
theorem d_ErrataRow_letter_1 : decode c_ErrataRow_letter 1 = .ok (.iload_n 1, 1) := by decide +kernel
theorem d_ErrataRow_letter_2 : decode c_ErrataRow_letter 2 = .ok (.invokevirtual 141, 3) := by decide +kernel
theorem d_ErrataRow_letter_5 : decode c_ErrataRow_letter 5 = .ok (.ifCond .ne 5, 3) := by decide +kernel
theorem d_ErrataRow_letter_8 : decode c_ErrataRow_letter 8 = .ok (.iconst (-1), 1) := by decide +kernel
theorem d_ErrataRow_letter_9 : decode c_ErrataRow_letter 9 = .ok (.ireturn, 1) := by decide +kernel
theorem d_ErrataRow_letter_10 : decode c_ErrataRow_letter 10 = .ok (.iload_n 2, 1) := by decide +kernel
theorem d_ErrataRow_letter_11 : decode c_ErrataRow_letter 11 = .ok (.tableswitch 81 0 3 #[29, 42, 55, 68], 29) := by decide +kernel
theorem d_ErrataRow_letter_40 : decode c_ErrataRow_letter 40 = .ok (.aload_n 0, 1) := by decide +kernel
theorem d_ErrataRow_letter_41 : decode c_ErrataRow_letter 41 = .ok (.getfield 45, 3) := by decide +kernel
theorem d_ErrataRow_letter_44 : decode c_ErrataRow_letter 44 = .ok (.getfield 145, 3) := by decide +kernel
theorem d_ErrataRow_letter_47 : decode c_ErrataRow_letter 47 = .ok (.getfield 148, 3) := by decide +kernel
theorem d_ErrataRow_letter_50 : decode c_ErrataRow_letter 50 = .ok (.iload_n 1, 1) := by decide +kernel
theorem d_ErrataRow_letter_51 : decode c_ErrataRow_letter 51 = .ok (.iaload, 1) := by decide +kernel
theorem d_ErrataRow_letter_52 : decode c_ErrataRow_letter 52 = .ok (.ireturn, 1) := by decide +kernel
theorem d_ErrataRow_letter_53 : decode c_ErrataRow_letter 53 = .ok (.aload_n 0, 1) := by decide +kernel
theorem d_ErrataRow_letter_54 : decode c_ErrataRow_letter 54 = .ok (.getfield 45, 3) := by decide +kernel
theorem d_ErrataRow_letter_57 : decode c_ErrataRow_letter 57 = .ok (.getfield 62, 3) := by decide +kernel
theorem d_ErrataRow_letter_60 : decode c_ErrataRow_letter 60 = .ok (.getfield 151, 3) := by decide +kernel
theorem d_ErrataRow_letter_63 : decode c_ErrataRow_letter 63 = .ok (.iload_n 1, 1) := by decide +kernel
theorem d_ErrataRow_letter_64 : decode c_ErrataRow_letter 64 = .ok (.iaload, 1) := by decide +kernel
theorem d_ErrataRow_letter_65 : decode c_ErrataRow_letter 65 = .ok (.ireturn, 1) := by decide +kernel
theorem d_ErrataRow_letter_66 : decode c_ErrataRow_letter 66 = .ok (.aload_n 0, 1) := by decide +kernel
theorem d_ErrataRow_letter_67 : decode c_ErrataRow_letter 67 = .ok (.getfield 45, 3) := by decide +kernel
theorem d_ErrataRow_letter_70 : decode c_ErrataRow_letter 70 = .ok (.getfield 145, 3) := by decide +kernel
theorem d_ErrataRow_letter_73 : decode c_ErrataRow_letter 73 = .ok (.getfield 154, 3) := by decide +kernel
theorem d_ErrataRow_letter_76 : decode c_ErrataRow_letter 76 = .ok (.iload_n 1, 1) := by decide +kernel
theorem d_ErrataRow_letter_77 : decode c_ErrataRow_letter 77 = .ok (.iaload, 1) := by decide +kernel
theorem d_ErrataRow_letter_78 : decode c_ErrataRow_letter 78 = .ok (.ireturn, 1) := by decide +kernel
theorem d_ErrataRow_letter_79 : decode c_ErrataRow_letter 79 = .ok (.aload_n 0, 1) := by decide +kernel
theorem d_ErrataRow_letter_80 : decode c_ErrataRow_letter 80 = .ok (.getfield 45, 3) := by decide +kernel
theorem d_ErrataRow_letter_83 : decode c_ErrataRow_letter 83 = .ok (.getfield 145, 3) := by decide +kernel
theorem d_ErrataRow_letter_86 : decode c_ErrataRow_letter 86 = .ok (.getfield 157, 3) := by decide +kernel
theorem d_ErrataRow_letter_89 : decode c_ErrataRow_letter 89 = .ok (.iload_n 1, 1) := by decide +kernel
theorem d_ErrataRow_letter_90 : decode c_ErrataRow_letter 90 = .ok (.iaload, 1) := by decide +kernel
theorem d_ErrataRow_letter_91 : decode c_ErrataRow_letter 91 = .ok (.ireturn, 1) := by decide +kernel
theorem d_ErrataRow_letter_92 : decode c_ErrataRow_letter 92 = .ok (.iconst (-1), 1) := by decide +kernel
theorem d_ErrataRow_letter_93 : decode c_ErrataRow_letter 93 = .ok (.ireturn, 1) := by decide +kernel
abbrev c_ErrataRow_habit : ByteArray := prog_1_method_13_code
def y_ErrataRow_habit : MethodName := ⟨RX11, "habit", "(II)I"⟩
theorem d_ErrataRow_habit_0 : decode c_ErrataRow_habit 0 = .ok (.aload_n 0, 1) := by decide +kernel
theorem d_ErrataRow_habit_1 : decode c_ErrataRow_habit 1 = .ok (.getfield 45, 3) := by decide +kernel
theorem d_ErrataRow_habit_4 : decode c_ErrataRow_habit 4 = .ok (.getfield 62, 3) := by decide +kernel
theorem d_ErrataRow_habit_7 : decode c_ErrataRow_habit 7 = .ok (.astore_n 3, 1) := by decide +kernel
theorem d_ErrataRow_habit_8 : decode c_ErrataRow_habit 8 = .ok (.aload_n 3, 1) := by decide +kernel
theorem d_ErrataRow_habit_9 : decode c_ErrataRow_habit 9 = .ok (.getfield 160, 3) := by decide +kernel
theorem d_ErrataRow_habit_12 : decode c_ErrataRow_habit 12 = .ok (.ifCond .eq 26, 3) := by decide +kernel
theorem d_ErrataRow_habit_15 : decode c_ErrataRow_habit 15 = .ok (.iload_n 1, 1) := by decide +kernel
theorem d_ErrataRow_habit_16 : decode c_ErrataRow_habit 16 = .ok (.iconst 0, 1) := by decide +kernel
theorem d_ErrataRow_habit_17 : decode c_ErrataRow_habit 17 = .ok (.aload_n 3, 1) := by decide +kernel
theorem d_ErrataRow_habit_18 : decode c_ErrataRow_habit 18 = .ok (.invokevirtual 163, 3) := by decide +kernel
theorem d_ErrataRow_habit_21 : decode c_ErrataRow_habit 21 = .ok (.iconst 1, 1) := by decide +kernel
theorem d_ErrataRow_habit_22 : decode c_ErrataRow_habit 22 = .ok (.isub, 1) := by decide +kernel
theorem d_ErrataRow_habit_23 : decode c_ErrataRow_habit 23 = .ok (.invokestatic 166, 3) := by decide +kernel
theorem d_ErrataRow_habit_26 : decode c_ErrataRow_habit 26 = .ok (.ifCond .eq 12, 3) := by decide +kernel
theorem d_ErrataRow_habit_29 : decode c_ErrataRow_habit 29 = .ok (.iload_n 2, 1) := by decide +kernel
theorem d_ErrataRow_habit_30 : decode c_ErrataRow_habit 30 = .ok (.iconst 0, 1) := by decide +kernel
theorem d_ErrataRow_habit_31 : decode c_ErrataRow_habit 31 = .ok (.iconst 1, 1) := by decide +kernel
theorem d_ErrataRow_habit_32 : decode c_ErrataRow_habit 32 = .ok (.invokestatic 166, 3) := by decide +kernel
theorem d_ErrataRow_habit_35 : decode c_ErrataRow_habit 35 = .ok (.ifCond .ne 5, 3) := by decide +kernel
theorem d_ErrataRow_habit_38 : decode c_ErrataRow_habit 38 = .ok (.iconst (-1), 1) := by decide +kernel
theorem d_ErrataRow_habit_39 : decode c_ErrataRow_habit 39 = .ok (.ireturn, 1) := by decide +kernel
theorem d_ErrataRow_habit_40 : decode c_ErrataRow_habit 40 = .ok (.iload_n 2, 1) := by decide +kernel
theorem d_ErrataRow_habit_41 : decode c_ErrataRow_habit 41 = .ok (.ifCond .ne 12, 3) := by decide +kernel
theorem d_ErrataRow_habit_44 : decode c_ErrataRow_habit 44 = .ok (.aload_n 3, 1) := by decide +kernel
theorem d_ErrataRow_habit_45 : decode c_ErrataRow_habit 45 = .ok (.getfield 170, 3) := by decide +kernel
theorem d_ErrataRow_habit_48 : decode c_ErrataRow_habit 48 = .ok (.iload_n 1, 1) := by decide +kernel
theorem d_ErrataRow_habit_49 : decode c_ErrataRow_habit 49 = .ok (.iaload, 1) := by decide +kernel
theorem d_ErrataRow_habit_50 : decode c_ErrataRow_habit 50 = .ok (.goto 9, 3) := by decide +kernel
theorem d_ErrataRow_habit_53 : decode c_ErrataRow_habit 53 = .ok (.aload_n 3, 1) := by decide +kernel
theorem d_ErrataRow_habit_54 : decode c_ErrataRow_habit 54 = .ok (.getfield 173, 3) := by decide +kernel
theorem d_ErrataRow_habit_57 : decode c_ErrataRow_habit 57 = .ok (.iload_n 1, 1) := by decide +kernel
theorem d_ErrataRow_habit_58 : decode c_ErrataRow_habit 58 = .ok (.iaload, 1) := by decide +kernel
theorem d_ErrataRow_habit_59 : decode c_ErrataRow_habit 59 = .ok (.ireturn, 1) := by decide +kernel
abbrev c_ErrataRow_count : ByteArray := prog_1_method_14_code
def y_ErrataRow_count : MethodName := ⟨RX11, "count", "(I)I"⟩
theorem d_ErrataRow_count_0 : decode c_ErrataRow_count 0 = .ok (.iload_n 1, 1) := by decide +kernel
theorem d_ErrataRow_count_1 : decode c_ErrataRow_count 1 = .ok (.tableswitch 229 0 13 #[71, 82, 110, 121, 126, 134, 145, 160, 175, 186, 197, 208, 216, 224], 71) := by decide +kernel
theorem d_ErrataRow_count_72 : decode c_ErrataRow_count 72 = .ok (.aload_n 0, 1) := by decide +kernel
theorem d_ErrataRow_count_73 : decode c_ErrataRow_count 73 = .ok (.getfield 45, 3) := by decide +kernel
theorem d_ErrataRow_count_76 : decode c_ErrataRow_count 76 = .ok (.getfield 62, 3) := by decide +kernel
theorem d_ErrataRow_count_79 : decode c_ErrataRow_count 79 = .ok (.getfield 176, 3) := by decide +kernel
theorem d_ErrataRow_count_82 : decode c_ErrataRow_count 82 = .ok (.ireturn, 1) := by decide +kernel
theorem d_ErrataRow_count_83 : decode c_ErrataRow_count 83 = .ok (.aload_n 0, 1) := by decide +kernel
theorem d_ErrataRow_count_84 : decode c_ErrataRow_count 84 = .ok (.getfield 45, 3) := by decide +kernel
theorem d_ErrataRow_count_87 : decode c_ErrataRow_count 87 = .ok (.getfield 62, 3) := by decide +kernel
theorem d_ErrataRow_count_90 : decode c_ErrataRow_count 90 = .ok (.getfield 160, 3) := by decide +kernel
theorem d_ErrataRow_count_93 : decode c_ErrataRow_count 93 = .ok (.ifCond .eq 16, 3) := by decide +kernel
theorem d_ErrataRow_count_96 : decode c_ErrataRow_count 96 = .ok (.aload_n 0, 1) := by decide +kernel
theorem d_ErrataRow_count_97 : decode c_ErrataRow_count 97 = .ok (.getfield 45, 3) := by decide +kernel
theorem d_ErrataRow_count_100 : decode c_ErrataRow_count 100 = .ok (.getfield 62, 3) := by decide +kernel
theorem d_ErrataRow_count_103 : decode c_ErrataRow_count 103 = .ok (.invokevirtual 163, 3) := by decide +kernel
theorem d_ErrataRow_count_106 : decode c_ErrataRow_count 106 = .ok (.goto 4, 3) := by decide +kernel
theorem d_ErrataRow_count_109 : decode c_ErrataRow_count 109 = .ok (.iconst 0, 1) := by decide +kernel
theorem d_ErrataRow_count_110 : decode c_ErrataRow_count 110 = .ok (.ireturn, 1) := by decide +kernel
theorem d_ErrataRow_count_111 : decode c_ErrataRow_count 111 = .ok (.aload_n 0, 1) := by decide +kernel
theorem d_ErrataRow_count_112 : decode c_ErrataRow_count 112 = .ok (.getfield 45, 3) := by decide +kernel
theorem d_ErrataRow_count_115 : decode c_ErrataRow_count 115 = .ok (.getfield 62, 3) := by decide +kernel
theorem d_ErrataRow_count_118 : decode c_ErrataRow_count 118 = .ok (.getfield 123, 3) := by decide +kernel
theorem d_ErrataRow_count_121 : decode c_ErrataRow_count 121 = .ok (.ireturn, 1) := by decide +kernel
theorem d_ErrataRow_count_122 : decode c_ErrataRow_count 122 = .ok (.aload_n 0, 1) := by decide +kernel
theorem d_ErrataRow_count_123 : decode c_ErrataRow_count 123 = .ok (.getfield 128, 3) := by decide +kernel
theorem d_ErrataRow_count_126 : decode c_ErrataRow_count 126 = .ok (.ireturn, 1) := by decide +kernel
theorem d_ErrataRow_count_127 : decode c_ErrataRow_count 127 = .ok (.aload_n 0, 1) := by decide +kernel
theorem d_ErrataRow_count_128 : decode c_ErrataRow_count 128 = .ok (.getfield 45, 3) := by decide +kernel
theorem d_ErrataRow_count_131 : decode c_ErrataRow_count 131 = .ok (.getfield 138, 3) := by decide +kernel
theorem d_ErrataRow_count_134 : decode c_ErrataRow_count 134 = .ok (.ireturn, 1) := by decide +kernel
theorem d_ErrataRow_count_135 : decode c_ErrataRow_count 135 = .ok (.aload_n 0, 1) := by decide +kernel
theorem d_ErrataRow_count_136 : decode c_ErrataRow_count 136 = .ok (.getfield 45, 3) := by decide +kernel
theorem d_ErrataRow_count_139 : decode c_ErrataRow_count 139 = .ok (.getfield 145, 3) := by decide +kernel
theorem d_ErrataRow_count_142 : decode c_ErrataRow_count 142 = .ok (.getfield 179, 3) := by decide +kernel
theorem d_ErrataRow_count_145 : decode c_ErrataRow_count 145 = .ok (.ireturn, 1) := by decide +kernel
theorem d_ErrataRow_count_146 : decode c_ErrataRow_count 146 = .ok (.aload_n 0, 1) := by decide +kernel
theorem d_ErrataRow_count_147 : decode c_ErrataRow_count 147 = .ok (.getfield 69, 3) := by decide +kernel
theorem d_ErrataRow_count_150 : decode c_ErrataRow_count 150 = .ok (.aload_n 0, 1) := by decide +kernel
theorem d_ErrataRow_count_151 : decode c_ErrataRow_count 151 = .ok (.getfield 45, 3) := by decide +kernel
theorem d_ErrataRow_count_154 : decode c_ErrataRow_count 154 = .ok (.getfield 145, 3) := by decide +kernel
theorem d_ErrataRow_count_157 : decode c_ErrataRow_count 157 = .ok (.invokevirtual 182, 3) := by decide +kernel
theorem d_ErrataRow_count_160 : decode c_ErrataRow_count 160 = .ok (.ireturn, 1) := by decide +kernel
theorem d_ErrataRow_count_161 : decode c_ErrataRow_count 161 = .ok (.aload_n 0, 1) := by decide +kernel
theorem d_ErrataRow_count_162 : decode c_ErrataRow_count 162 = .ok (.getfield 69, 3) := by decide +kernel
theorem d_ErrataRow_count_165 : decode c_ErrataRow_count 165 = .ok (.aload_n 0, 1) := by decide +kernel
theorem d_ErrataRow_count_166 : decode c_ErrataRow_count 166 = .ok (.getfield 45, 3) := by decide +kernel
theorem d_ErrataRow_count_169 : decode c_ErrataRow_count 169 = .ok (.getfield 145, 3) := by decide +kernel
theorem d_ErrataRow_count_172 : decode c_ErrataRow_count 172 = .ok (.invokevirtual 186, 3) := by decide +kernel
theorem d_ErrataRow_count_175 : decode c_ErrataRow_count 175 = .ok (.ireturn, 1) := by decide +kernel
theorem d_ErrataRow_count_176 : decode c_ErrataRow_count 176 = .ok (.aload_n 0, 1) := by decide +kernel
theorem d_ErrataRow_count_177 : decode c_ErrataRow_count 177 = .ok (.getfield 45, 3) := by decide +kernel
theorem d_ErrataRow_count_180 : decode c_ErrataRow_count 180 = .ok (.getfield 145, 3) := by decide +kernel
theorem d_ErrataRow_count_183 : decode c_ErrataRow_count 183 = .ok (.getfield 189, 3) := by decide +kernel
theorem d_ErrataRow_count_186 : decode c_ErrataRow_count 186 = .ok (.ireturn, 1) := by decide +kernel
theorem d_ErrataRow_count_187 : decode c_ErrataRow_count 187 = .ok (.aload_n 0, 1) := by decide +kernel
theorem d_ErrataRow_count_188 : decode c_ErrataRow_count 188 = .ok (.getfield 45, 3) := by decide +kernel
theorem d_ErrataRow_count_191 : decode c_ErrataRow_count 191 = .ok (.getfield 145, 3) := by decide +kernel
theorem d_ErrataRow_count_194 : decode c_ErrataRow_count 194 = .ok (.getfield 192, 3) := by decide +kernel
theorem d_ErrataRow_count_197 : decode c_ErrataRow_count 197 = .ok (.ireturn, 1) := by decide +kernel
theorem d_ErrataRow_count_198 : decode c_ErrataRow_count 198 = .ok (.aload_n 0, 1) := by decide +kernel
theorem d_ErrataRow_count_199 : decode c_ErrataRow_count 199 = .ok (.getfield 45, 3) := by decide +kernel
theorem d_ErrataRow_count_202 : decode c_ErrataRow_count 202 = .ok (.getfield 195, 3) := by decide +kernel
theorem d_ErrataRow_count_205 : decode c_ErrataRow_count 205 = .ok (.getfield 199, 3) := by decide +kernel
theorem d_ErrataRow_count_208 : decode c_ErrataRow_count 208 = .ok (.ireturn, 1) := by decide +kernel
theorem d_ErrataRow_count_209 : decode c_ErrataRow_count 209 = .ok (.aload_n 0, 1) := by decide +kernel
theorem d_ErrataRow_count_210 : decode c_ErrataRow_count 210 = .ok (.getfield 56, 3) := by decide +kernel
theorem d_ErrataRow_count_213 : decode c_ErrataRow_count 213 = .ok (.getfield 204, 3) := by decide +kernel
theorem d_ErrataRow_count_216 : decode c_ErrataRow_count 216 = .ok (.ireturn, 1) := by decide +kernel
theorem d_ErrataRow_count_217 : decode c_ErrataRow_count 217 = .ok (.aload_n 0, 1) := by decide +kernel
theorem d_ErrataRow_count_218 : decode c_ErrataRow_count 218 = .ok (.getfield 45, 3) := by decide +kernel
theorem d_ErrataRow_count_221 : decode c_ErrataRow_count 221 = .ok (.getfield 205, 3) := by decide +kernel
theorem d_ErrataRow_count_224 : decode c_ErrataRow_count 224 = .ok (.ireturn, 1) := by decide +kernel
theorem d_ErrataRow_count_225 : decode c_ErrataRow_count 225 = .ok (.aload_n 0, 1) := by decide +kernel
theorem d_ErrataRow_count_226 : decode c_ErrataRow_count 226 = .ok (.getfield 98, 3) := by decide +kernel
theorem d_ErrataRow_count_229 : decode c_ErrataRow_count 229 = .ok (.ireturn, 1) := by decide +kernel
theorem d_ErrataRow_count_230 : decode c_ErrataRow_count 230 = .ok (.iconst (-1), 1) := by decide +kernel
theorem d_ErrataRow_count_231 : decode c_ErrataRow_count 231 = .ok (.ireturn, 1) := by decide +kernel
abbrev c_ErrataRow_edition : ByteArray := prog_1_method_15_code
def y_ErrataRow_edition : MethodName := ⟨RX11, "edition", "()I"⟩
theorem d_ErrataRow_edition_0 : decode c_ErrataRow_edition 0 = .ok (.aload_n 0, 1) := by decide +kernel
theorem d_ErrataRow_edition_1 : decode c_ErrataRow_edition 1 = .ok (.getfield 45, 3) := by decide +kernel
theorem d_ErrataRow_edition_4 : decode c_ErrataRow_edition 4 = .ok (.getfield 62, 3) := by decide +kernel
theorem d_ErrataRow_edition_7 : decode c_ErrataRow_edition 7 = .ok (.getfield 160, 3) := by decide +kernel
theorem d_ErrataRow_edition_10 : decode c_ErrataRow_edition 10 = .ok (.ifCond .eq 19, 3) := by decide +kernel
theorem d_ErrataRow_edition_13 : decode c_ErrataRow_edition 13 = .ok (.aload_n 0, 1) := by decide +kernel
theorem d_ErrataRow_edition_14 : decode c_ErrataRow_edition 14 = .ok (.getfield 45, 3) := by decide +kernel
theorem d_ErrataRow_edition_17 : decode c_ErrataRow_edition 17 = .ok (.getfield 145, 3) := by decide +kernel
theorem d_ErrataRow_edition_20 : decode c_ErrataRow_edition 20 = .ok (.getfield 179, 3) := by decide +kernel
theorem d_ErrataRow_edition_23 : decode c_ErrataRow_edition 23 = .ok (.sipush 999, 3) := by decide +kernel
theorem d_ErrataRow_edition_26 : decode c_ErrataRow_edition 26 = .ok (.if_icmp .lt 5, 3) := by decide +kernel
theorem d_ErrataRow_edition_29 : decode c_ErrataRow_edition 29 = .ok (.iconst (-1), 1) := by decide +kernel
theorem d_ErrataRow_edition_30 : decode c_ErrataRow_edition 30 = .ok (.ireturn, 1) := by decide +kernel
theorem d_ErrataRow_edition_31 : decode c_ErrataRow_edition 31 = .ok (.aload_n 0, 1) := by decide +kernel
theorem d_ErrataRow_edition_32 : decode c_ErrataRow_edition 32 = .ok (.getfield 56, 3) := by decide +kernel
theorem d_ErrataRow_edition_35 : decode c_ErrataRow_edition 35 = .ok (.aload_n 0, 1) := by decide +kernel
theorem d_ErrataRow_edition_36 : decode c_ErrataRow_edition 36 = .ok (.getfield 45, 3) := by decide +kernel
theorem d_ErrataRow_edition_39 : decode c_ErrataRow_edition 39 = .ok (.getfield 145, 3) := by decide +kernel
theorem d_ErrataRow_edition_42 : decode c_ErrataRow_edition 42 = .ok (.invokevirtual 208, 3) := by decide +kernel
theorem d_ErrataRow_edition_45 : decode c_ErrataRow_edition 45 = .ok (.aload_n 0, 1) := by decide +kernel
theorem d_ErrataRow_edition_46 : decode c_ErrataRow_edition 46 = .ok (.aload_n 0, 1) := by decide +kernel
theorem d_ErrataRow_edition_47 : decode c_ErrataRow_edition 47 = .ok (.getfield 45, 3) := by decide +kernel
theorem d_ErrataRow_edition_50 : decode c_ErrataRow_edition 50 = .ok (.getfield 138, 3) := by decide +kernel
theorem d_ErrataRow_edition_53 : decode c_ErrataRow_edition 53 = .ok (.invokevirtual 212, 3) := by decide +kernel
theorem d_ErrataRow_edition_56 : decode c_ErrataRow_edition 56 = .ok (.aload_n 0, 1) := by decide +kernel
theorem d_ErrataRow_edition_57 : decode c_ErrataRow_edition 57 = .ok (.getfield 69, 3) := by decide +kernel
theorem d_ErrataRow_edition_60 : decode c_ErrataRow_edition 60 = .ok (.aload_n 0, 1) := by decide +kernel
theorem d_ErrataRow_edition_61 : decode c_ErrataRow_edition 61 = .ok (.getfield 45, 3) := by decide +kernel
theorem d_ErrataRow_edition_64 : decode c_ErrataRow_edition 64 = .ok (.getfield 145, 3) := by decide +kernel
theorem d_ErrataRow_edition_67 : decode c_ErrataRow_edition 67 = .ok (.invokevirtual 215, 3) := by decide +kernel
theorem d_ErrataRow_edition_70 : decode c_ErrataRow_edition 70 = .ok (.istore_n 1, 1) := by decide +kernel
theorem d_ErrataRow_edition_71 : decode c_ErrataRow_edition 71 = .ok (.iload_n 1, 1) := by decide +kernel
theorem d_ErrataRow_edition_72 : decode c_ErrataRow_edition 72 = .ok (.iconst (-1), 1) := by decide +kernel
theorem d_ErrataRow_edition_73 : decode c_ErrataRow_edition 73 = .ok (.if_icmp .ne 8, 3) := by decide +kernel
theorem d_ErrataRow_edition_76 : decode c_ErrataRow_edition 76 = .ok (.bipush (-2), 2) := by decide +kernel
theorem d_ErrataRow_edition_78 : decode c_ErrataRow_edition 78 = .ok (.goto 4, 3) := by decide +kernel
theorem d_ErrataRow_edition_81 : decode c_ErrataRow_edition 81 = .ok (.iload_n 1, 1) := by decide +kernel
theorem d_ErrataRow_edition_82 : decode c_ErrataRow_edition 82 = .ok (.ireturn, 1) := by decide +kernel
abbrev c_ErrataRow_set : ByteArray := prog_1_method_16_code
def y_ErrataRow_set : MethodName := ⟨RX11, "set", "(II)I"⟩
theorem d_ErrataRow_set_0 : decode c_ErrataRow_set 0 = .ok (.aload_n 0, 1) := by decide +kernel
theorem d_ErrataRow_set_1 : decode c_ErrataRow_set 1 = .ok (.iload_n 1, 1) := by decide +kernel
theorem d_ErrataRow_set_2 : decode c_ErrataRow_set 2 = .ok (.invokevirtual 141, 3) := by decide +kernel
theorem d_ErrataRow_set_5 : decode c_ErrataRow_set 5 = .ok (.ifCond .eq 26, 3) := by decide +kernel
theorem d_ErrataRow_set_8 : decode c_ErrataRow_set 8 = .ok (.iload_n 2, 1) := by decide +kernel
theorem d_ErrataRow_set_9 : decode c_ErrataRow_set 9 = .ok (.invokestatic 218, 3) := by decide +kernel
theorem d_ErrataRow_set_12 : decode c_ErrataRow_set 12 = .ok (.ifCond .eq 19, 3) := by decide +kernel
theorem d_ErrataRow_set_15 : decode c_ErrataRow_set 15 = .ok (.aload_n 0, 1) := by decide +kernel
theorem d_ErrataRow_set_16 : decode c_ErrataRow_set 16 = .ok (.getfield 45, 3) := by decide +kernel
theorem d_ErrataRow_set_19 : decode c_ErrataRow_set 19 = .ok (.getfield 145, 3) := by decide +kernel
theorem d_ErrataRow_set_22 : decode c_ErrataRow_set 22 = .ok (.getfield 148, 3) := by decide +kernel
theorem d_ErrataRow_set_25 : decode c_ErrataRow_set 25 = .ok (.iload_n 1, 1) := by decide +kernel
theorem d_ErrataRow_set_26 : decode c_ErrataRow_set 26 = .ok (.iaload, 1) := by decide +kernel
theorem d_ErrataRow_set_27 : decode c_ErrataRow_set 27 = .ok (.iload_n 2, 1) := by decide +kernel
theorem d_ErrataRow_set_28 : decode c_ErrataRow_set 28 = .ok (.if_icmp .ne 5, 3) := by decide +kernel
theorem d_ErrataRow_set_31 : decode c_ErrataRow_set 31 = .ok (.iconst (-1), 1) := by decide +kernel
theorem d_ErrataRow_set_32 : decode c_ErrataRow_set 32 = .ok (.ireturn, 1) := by decide +kernel
theorem d_ErrataRow_set_33 : decode c_ErrataRow_set 33 = .ok (.aload_n 0, 1) := by decide +kernel
theorem d_ErrataRow_set_34 : decode c_ErrataRow_set 34 = .ok (.getfield 56, 3) := by decide +kernel
theorem d_ErrataRow_set_37 : decode c_ErrataRow_set 37 = .ok (.aload_n 0, 1) := by decide +kernel
theorem d_ErrataRow_set_38 : decode c_ErrataRow_set 38 = .ok (.getfield 45, 3) := by decide +kernel
theorem d_ErrataRow_set_41 : decode c_ErrataRow_set 41 = .ok (.getfield 145, 3) := by decide +kernel
theorem d_ErrataRow_set_44 : decode c_ErrataRow_set 44 = .ok (.invokevirtual 208, 3) := by decide +kernel
theorem d_ErrataRow_set_47 : decode c_ErrataRow_set 47 = .ok (.aload_n 0, 1) := by decide +kernel
theorem d_ErrataRow_set_48 : decode c_ErrataRow_set 48 = .ok (.getfield 45, 3) := by decide +kernel
theorem d_ErrataRow_set_51 : decode c_ErrataRow_set 51 = .ok (.getfield 145, 3) := by decide +kernel
theorem d_ErrataRow_set_54 : decode c_ErrataRow_set 54 = .ok (.getfield 148, 3) := by decide +kernel
theorem d_ErrataRow_set_57 : decode c_ErrataRow_set 57 = .ok (.iload_n 1, 1) := by decide +kernel
theorem d_ErrataRow_set_58 : decode c_ErrataRow_set 58 = .ok (.iaload, 1) := by decide +kernel
theorem d_ErrataRow_set_59 : decode c_ErrataRow_set 59 = .ok (.istore_n 3, 1) := by decide +kernel
theorem d_ErrataRow_set_60 : decode c_ErrataRow_set 60 = .ok (.aload_n 0, 1) := by decide +kernel
theorem d_ErrataRow_set_61 : decode c_ErrataRow_set 61 = .ok (.getfield 45, 3) := by decide +kernel
theorem d_ErrataRow_set_64 : decode c_ErrataRow_set 64 = .ok (.getfield 145, 3) := by decide +kernel
theorem d_ErrataRow_set_67 : decode c_ErrataRow_set 67 = .ok (.getfield 148, 3) := by decide +kernel
theorem d_ErrataRow_set_70 : decode c_ErrataRow_set 70 = .ok (.iload_n 1, 1) := by decide +kernel
theorem d_ErrataRow_set_71 : decode c_ErrataRow_set 71 = .ok (.iload_n 2, 1) := by decide +kernel
theorem d_ErrataRow_set_72 : decode c_ErrataRow_set 72 = .ok (.iastore, 1) := by decide +kernel
theorem d_ErrataRow_set_73 : decode c_ErrataRow_set 73 = .ok (.iload_n 3, 1) := by decide +kernel
theorem d_ErrataRow_set_74 : decode c_ErrataRow_set 74 = .ok (.ireturn, 1) := by decide +kernel
abbrev c_ErrataRow_mend : ByteArray := prog_1_method_17_code
def y_ErrataRow_mend : MethodName := ⟨RX11, "mend", "(I)I"⟩
theorem d_ErrataRow_mend_0 : decode c_ErrataRow_mend 0 = .ok (.aload_n 0, 1) := by decide +kernel
theorem d_ErrataRow_mend_1 : decode c_ErrataRow_mend 1 = .ok (.iload_n 1, 1) := by decide +kernel
theorem d_ErrataRow_mend_2 : decode c_ErrataRow_mend 2 = .ok (.invokevirtual 141, 3) := by decide +kernel
theorem d_ErrataRow_mend_5 : decode c_ErrataRow_mend 5 = .ok (.ifCond .eq 24, 3) := by decide +kernel
theorem d_ErrataRow_mend_8 : decode c_ErrataRow_mend 8 = .ok (.aload_n 0, 1) := by decide +kernel
theorem d_ErrataRow_mend_9 : decode c_ErrataRow_mend 9 = .ok (.getfield 69, 3) := by decide +kernel
theorem d_ErrataRow_mend_12 : decode c_ErrataRow_mend 12 = .ok (.aload_n 0, 1) := by decide +kernel
theorem d_ErrataRow_mend_13 : decode c_ErrataRow_mend 13 = .ok (.getfield 45, 3) := by decide +kernel
theorem d_ErrataRow_mend_16 : decode c_ErrataRow_mend 16 = .ok (.getfield 145, 3) := by decide +kernel
theorem d_ErrataRow_mend_19 : decode c_ErrataRow_mend 19 = .ok (.invokevirtual 186, 3) := by decide +kernel
theorem d_ErrataRow_mend_22 : decode c_ErrataRow_mend 22 = .ok (.iload_n 1, 1) := by decide +kernel
theorem d_ErrataRow_mend_23 : decode c_ErrataRow_mend 23 = .ok (.invokestatic 221, 3) := by decide +kernel
theorem d_ErrataRow_mend_26 : decode c_ErrataRow_mend 26 = .ok (.ifCond .ne 5, 3) := by decide +kernel
theorem d_ErrataRow_mend_29 : decode c_ErrataRow_mend 29 = .ok (.iconst (-1), 1) := by decide +kernel
theorem d_ErrataRow_mend_30 : decode c_ErrataRow_mend 30 = .ok (.ireturn, 1) := by decide +kernel
theorem d_ErrataRow_mend_31 : decode c_ErrataRow_mend 31 = .ok (.aload_n 0, 1) := by decide +kernel
theorem d_ErrataRow_mend_32 : decode c_ErrataRow_mend 32 = .ok (.getfield 56, 3) := by decide +kernel
theorem d_ErrataRow_mend_35 : decode c_ErrataRow_mend 35 = .ok (.aload_n 0, 1) := by decide +kernel
theorem d_ErrataRow_mend_36 : decode c_ErrataRow_mend 36 = .ok (.getfield 45, 3) := by decide +kernel
theorem d_ErrataRow_mend_39 : decode c_ErrataRow_mend 39 = .ok (.getfield 145, 3) := by decide +kernel
theorem d_ErrataRow_mend_42 : decode c_ErrataRow_mend 42 = .ok (.invokevirtual 208, 3) := by decide +kernel
theorem d_ErrataRow_mend_45 : decode c_ErrataRow_mend 45 = .ok (.aload_n 0, 1) := by decide +kernel
theorem d_ErrataRow_mend_46 : decode c_ErrataRow_mend 46 = .ok (.getfield 45, 3) := by decide +kernel
theorem d_ErrataRow_mend_49 : decode c_ErrataRow_mend 49 = .ok (.getfield 145, 3) := by decide +kernel
theorem d_ErrataRow_mend_52 : decode c_ErrataRow_mend 52 = .ok (.getfield 148, 3) := by decide +kernel
theorem d_ErrataRow_mend_55 : decode c_ErrataRow_mend 55 = .ok (.iload_n 1, 1) := by decide +kernel
theorem d_ErrataRow_mend_56 : decode c_ErrataRow_mend 56 = .ok (.aload_n 0, 1) := by decide +kernel
theorem d_ErrataRow_mend_57 : decode c_ErrataRow_mend 57 = .ok (.getfield 45, 3) := by decide +kernel
theorem d_ErrataRow_mend_60 : decode c_ErrataRow_mend 60 = .ok (.getfield 62, 3) := by decide +kernel
theorem d_ErrataRow_mend_63 : decode c_ErrataRow_mend 63 = .ok (.getfield 151, 3) := by decide +kernel
theorem d_ErrataRow_mend_66 : decode c_ErrataRow_mend 66 = .ok (.iload_n 1, 1) := by decide +kernel
theorem d_ErrataRow_mend_67 : decode c_ErrataRow_mend 67 = .ok (.iaload, 1) := by decide +kernel
theorem d_ErrataRow_mend_68 : decode c_ErrataRow_mend 68 = .ok (.iastore, 1) := by decide +kernel
theorem d_ErrataRow_mend_69 : decode c_ErrataRow_mend 69 = .ok (.aload_n 0, 1) := by decide +kernel
theorem d_ErrataRow_mend_70 : decode c_ErrataRow_mend 70 = .ok (.getfield 69, 3) := by decide +kernel
theorem d_ErrataRow_mend_73 : decode c_ErrataRow_mend 73 = .ok (.aload_n 0, 1) := by decide +kernel
theorem d_ErrataRow_mend_74 : decode c_ErrataRow_mend 74 = .ok (.getfield 45, 3) := by decide +kernel
theorem d_ErrataRow_mend_77 : decode c_ErrataRow_mend 77 = .ok (.getfield 145, 3) := by decide +kernel
theorem d_ErrataRow_mend_80 : decode c_ErrataRow_mend 80 = .ok (.invokevirtual 225, 3) := by decide +kernel
theorem d_ErrataRow_mend_83 : decode c_ErrataRow_mend 83 = .ok (.ireturn, 1) := by decide +kernel
abbrev c_ErrataRow_hang : ByteArray := prog_1_method_18_code
def y_ErrataRow_hang : MethodName := ⟨RX11, "hang", "(II)I"⟩
theorem d_ErrataRow_hang_0 : decode c_ErrataRow_hang 0 = .ok (.aload_n 0, 1) := by decide +kernel
theorem d_ErrataRow_hang_1 : decode c_ErrataRow_hang 1 = .ok (.iload_n 1, 1) := by decide +kernel
theorem d_ErrataRow_hang_2 : decode c_ErrataRow_hang 2 = .ok (.invokevirtual 141, 3) := by decide +kernel
theorem d_ErrataRow_hang_5 : decode c_ErrataRow_hang 5 = .ok (.ifCond .eq 16, 3) := by decide +kernel
theorem d_ErrataRow_hang_8 : decode c_ErrataRow_hang 8 = .ok (.aload_n 0, 1) := by decide +kernel
theorem d_ErrataRow_hang_9 : decode c_ErrataRow_hang 9 = .ok (.iload_n 2, 1) := by decide +kernel
theorem d_ErrataRow_hang_10 : decode c_ErrataRow_hang 10 = .ok (.invokevirtual 141, 3) := by decide +kernel
theorem d_ErrataRow_hang_13 : decode c_ErrataRow_hang 13 = .ok (.ifCond .eq 8, 3) := by decide +kernel
theorem d_ErrataRow_hang_16 : decode c_ErrataRow_hang 16 = .ok (.iload_n 1, 1) := by decide +kernel
theorem d_ErrataRow_hang_17 : decode c_ErrataRow_hang 17 = .ok (.iload_n 2, 1) := by decide +kernel
theorem d_ErrataRow_hang_18 : decode c_ErrataRow_hang 18 = .ok (.if_icmp .ne 5, 3) := by decide +kernel
theorem d_ErrataRow_hang_21 : decode c_ErrataRow_hang 21 = .ok (.iconst (-1), 1) := by decide +kernel
theorem d_ErrataRow_hang_22 : decode c_ErrataRow_hang 22 = .ok (.ireturn, 1) := by decide +kernel
theorem d_ErrataRow_hang_23 : decode c_ErrataRow_hang 23 = .ok (.aload_n 0, 1) := by decide +kernel
theorem d_ErrataRow_hang_24 : decode c_ErrataRow_hang 24 = .ok (.getfield 56, 3) := by decide +kernel
theorem d_ErrataRow_hang_27 : decode c_ErrataRow_hang 27 = .ok (.aload_n 0, 1) := by decide +kernel
theorem d_ErrataRow_hang_28 : decode c_ErrataRow_hang 28 = .ok (.getfield 45, 3) := by decide +kernel
theorem d_ErrataRow_hang_31 : decode c_ErrataRow_hang 31 = .ok (.getfield 145, 3) := by decide +kernel
theorem d_ErrataRow_hang_34 : decode c_ErrataRow_hang 34 = .ok (.invokevirtual 208, 3) := by decide +kernel
theorem d_ErrataRow_hang_37 : decode c_ErrataRow_hang 37 = .ok (.aload_n 0, 1) := by decide +kernel
theorem d_ErrataRow_hang_38 : decode c_ErrataRow_hang 38 = .ok (.getfield 45, 3) := by decide +kernel
theorem d_ErrataRow_hang_41 : decode c_ErrataRow_hang 41 = .ok (.getfield 145, 3) := by decide +kernel
theorem d_ErrataRow_hang_44 : decode c_ErrataRow_hang 44 = .ok (.getfield 157, 3) := by decide +kernel
theorem d_ErrataRow_hang_47 : decode c_ErrataRow_hang 47 = .ok (.iload_n 1, 1) := by decide +kernel
theorem d_ErrataRow_hang_48 : decode c_ErrataRow_hang 48 = .ok (.dup2, 1) := by decide +kernel
theorem d_ErrataRow_hang_49 : decode c_ErrataRow_hang 49 = .ok (.iaload, 1) := by decide +kernel
theorem d_ErrataRow_hang_50 : decode c_ErrataRow_hang 50 = .ok (.iconst 1, 1) := by decide +kernel
theorem d_ErrataRow_hang_51 : decode c_ErrataRow_hang 51 = .ok (.iload_n 2, 1) := by decide +kernel
theorem d_ErrataRow_hang_52 : decode c_ErrataRow_hang 52 = .ok (.ishl, 1) := by decide +kernel
theorem d_ErrataRow_hang_53 : decode c_ErrataRow_hang 53 = .ok (.ixor, 1) := by decide +kernel
theorem d_ErrataRow_hang_54 : decode c_ErrataRow_hang 54 = .ok (.iastore, 1) := by decide +kernel
theorem d_ErrataRow_hang_55 : decode c_ErrataRow_hang 55 = .ok (.aload_n 0, 1) := by decide +kernel
theorem d_ErrataRow_hang_56 : decode c_ErrataRow_hang 56 = .ok (.getfield 45, 3) := by decide +kernel
theorem d_ErrataRow_hang_59 : decode c_ErrataRow_hang 59 = .ok (.getfield 145, 3) := by decide +kernel
theorem d_ErrataRow_hang_62 : decode c_ErrataRow_hang 62 = .ok (.getfield 157, 3) := by decide +kernel
theorem d_ErrataRow_hang_65 : decode c_ErrataRow_hang 65 = .ok (.iload_n 1, 1) := by decide +kernel
theorem d_ErrataRow_hang_66 : decode c_ErrataRow_hang 66 = .ok (.iaload, 1) := by decide +kernel
theorem d_ErrataRow_hang_67 : decode c_ErrataRow_hang 67 = .ok (.iload_n 2, 1) := by decide +kernel
theorem d_ErrataRow_hang_68 : decode c_ErrataRow_hang 68 = .ok (.invokestatic 221, 3) := by decide +kernel
theorem d_ErrataRow_hang_71 : decode c_ErrataRow_hang 71 = .ok (.ifCond .eq 7, 3) := by decide +kernel
theorem d_ErrataRow_hang_74 : decode c_ErrataRow_hang 74 = .ok (.iconst 1, 1) := by decide +kernel
theorem d_ErrataRow_hang_75 : decode c_ErrataRow_hang 75 = .ok (.goto 4, 3) := by decide +kernel
theorem d_ErrataRow_hang_78 : decode c_ErrataRow_hang 78 = .ok (.iconst 0, 1) := by decide +kernel
theorem d_ErrataRow_hang_79 : decode c_ErrataRow_hang 79 = .ok (.ireturn, 1) := by decide +kernel
