abbrev c_ErrataRow_costOf : ByteArray := prog_1_method_45_code
def y_ErrataRow_costOf : MethodName := ⟨RX11, "costOf", "(I)I"⟩
theorem d_ErrataRow_costOf_0 : decode c_ErrataRow_costOf 0 = .ok (.sipush 3600, 3) := by decide +kernel
theorem d_ErrataRow_costOf_3 : decode c_ErrataRow_costOf 3 = .ok (.istore_n 2, 1) := by decide +kernel
theorem d_ErrataRow_costOf_4 : decode c_ErrataRow_costOf 4 = .ok (.aload_n 0, 1) := by decide +kernel
theorem d_ErrataRow_costOf_5 : decode c_ErrataRow_costOf 5 = .ok (.getfield 85, 3) := by decide +kernel
theorem d_ErrataRow_costOf_8 : decode c_ErrataRow_costOf 8 = .ok (.iload_n 2, 1) := by decide +kernel
theorem d_ErrataRow_costOf_9 : decode c_ErrataRow_costOf 9 = .ok (.putfield 189, 3) := by decide +kernel
theorem d_ErrataRow_costOf_12 : decode c_ErrataRow_costOf 12 = .ok (.aload_n 0, 1) := by decide +kernel
theorem d_ErrataRow_costOf_13 : decode c_ErrataRow_costOf 13 = .ok (.iload_n 1, 1) := by decide +kernel
theorem d_ErrataRow_costOf_14 : decode c_ErrataRow_costOf 14 = .ok (.invokevirtual 255, 3) := by decide +kernel
theorem d_ErrataRow_costOf_17 : decode c_ErrataRow_costOf 17 = .ok (.iload_n 2, 1) := by decide +kernel
theorem d_ErrataRow_costOf_18 : decode c_ErrataRow_costOf 18 = .ok (.aload_n 0, 1) := by decide +kernel
theorem d_ErrataRow_costOf_19 : decode c_ErrataRow_costOf 19 = .ok (.getfield 85, 3) := by decide +kernel
theorem d_ErrataRow_costOf_22 : decode c_ErrataRow_costOf 22 = .ok (.getfield 189, 3) := by decide +kernel
theorem d_ErrataRow_costOf_25 : decode c_ErrataRow_costOf 25 = .ok (.isub, 1) := by decide +kernel
theorem d_ErrataRow_costOf_26 : decode c_ErrataRow_costOf 26 = .ok (.istore_n 3, 1) := by decide +kernel
theorem d_ErrataRow_costOf_27 : decode c_ErrataRow_costOf 27 = .ok (.iload_n 3, 1) := by decide +kernel
theorem d_ErrataRow_costOf_28 : decode c_ErrataRow_costOf 28 = .ok (.sipush 999, 3) := by decide +kernel
theorem d_ErrataRow_costOf_31 : decode c_ErrataRow_costOf 31 = .ok (.if_icmp .gt 7, 3) := by decide +kernel
theorem d_ErrataRow_costOf_34 : decode c_ErrataRow_costOf 34 = .ok (.iload_n 3, 1) := by decide +kernel
theorem d_ErrataRow_costOf_35 : decode c_ErrataRow_costOf 35 = .ok (.goto 5, 3) := by decide +kernel
theorem d_ErrataRow_costOf_38 : decode c_ErrataRow_costOf 38 = .ok (.bipush (-2), 2) := by decide +kernel
theorem d_ErrataRow_costOf_40 : decode c_ErrataRow_costOf 40 = .ok (.ireturn, 1) := by decide +kernel
abbrev c_ErrataRow_isEnough : ByteArray := prog_1_method_46_code
def y_ErrataRow_isEnough : MethodName := ⟨RX11, "isEnough", "(II)Z"⟩
theorem d_ErrataRow_isEnough_0 : decode c_ErrataRow_isEnough 0 = .ok (.aload_n 0, 1) := by decide +kernel
theorem d_ErrataRow_isEnough_1 : decode c_ErrataRow_isEnough 1 = .ok (.aload_n 0, 1) := by decide +kernel
theorem d_ErrataRow_isEnough_2 : decode c_ErrataRow_isEnough 2 = .ok (.getfield 45, 3) := by decide +kernel
theorem d_ErrataRow_isEnough_5 : decode c_ErrataRow_isEnough 5 = .ok (.getfield 145, 3) := by decide +kernel
theorem d_ErrataRow_isEnough_8 : decode c_ErrataRow_isEnough 8 = .ok (.invokevirtual 252, 3) := by decide +kernel
theorem d_ErrataRow_isEnough_11 : decode c_ErrataRow_isEnough 11 = .ok (.aload_n 0, 1) := by decide +kernel
theorem d_ErrataRow_isEnough_12 : decode c_ErrataRow_isEnough 12 = .ok (.getfield 85, 3) := by decide +kernel
theorem d_ErrataRow_isEnough_15 : decode c_ErrataRow_isEnough 15 = .ok (.iload_n 1, 1) := by decide +kernel
theorem d_ErrataRow_isEnough_16 : decode c_ErrataRow_isEnough 16 = .ok (.putfield 189, 3) := by decide +kernel
theorem d_ErrataRow_isEnough_19 : decode c_ErrataRow_isEnough 19 = .ok (.iconst 0, 1) := by decide +kernel
theorem d_ErrataRow_isEnough_20 : decode c_ErrataRow_isEnough 20 = .ok (.istore_n 3, 1) := by decide +kernel
theorem d_ErrataRow_isEnough_21 : decode c_ErrataRow_isEnough 21 = .ok (.iload_n 3, 1) := by decide +kernel
theorem d_ErrataRow_isEnough_22 : decode c_ErrataRow_isEnough 22 = .ok (.iload_n 2, 1) := by decide +kernel
theorem d_ErrataRow_isEnough_23 : decode c_ErrataRow_isEnough 23 = .ok (.if_icmp .ge 33, 3) := by decide +kernel
theorem d_ErrataRow_isEnough_26 : decode c_ErrataRow_isEnough 26 = .ok (.aload_n 0, 1) := by decide +kernel
theorem d_ErrataRow_isEnough_27 : decode c_ErrataRow_isEnough 27 = .ok (.getfield 69, 3) := by decide +kernel
theorem d_ErrataRow_isEnough_30 : decode c_ErrataRow_isEnough 30 = .ok (.aload_n 0, 1) := by decide +kernel
theorem d_ErrataRow_isEnough_31 : decode c_ErrataRow_isEnough 31 = .ok (.getfield 85, 3) := by decide +kernel
theorem d_ErrataRow_isEnough_34 : decode c_ErrataRow_isEnough 34 = .ok (.invokevirtual 215, 3) := by decide +kernel
theorem d_ErrataRow_isEnough_37 : decode c_ErrataRow_isEnough 37 = .ok (.pop, 1) := by decide +kernel
theorem d_ErrataRow_isEnough_38 : decode c_ErrataRow_isEnough 38 = .ok (.aload_n 0, 1) := by decide +kernel
theorem d_ErrataRow_isEnough_39 : decode c_ErrataRow_isEnough 39 = .ok (.getfield 69, 3) := by decide +kernel
theorem d_ErrataRow_isEnough_42 : decode c_ErrataRow_isEnough 42 = .ok (.getfield 262, 3) := by decide +kernel
theorem d_ErrataRow_isEnough_45 : decode c_ErrataRow_isEnough 45 = .ok (.ifCond .eq 5, 3) := by decide +kernel
theorem d_ErrataRow_isEnough_48 : decode c_ErrataRow_isEnough 48 = .ok (.iconst 0, 1) := by decide +kernel
theorem d_ErrataRow_isEnough_49 : decode c_ErrataRow_isEnough 49 = .ok (.ireturn, 1) := by decide +kernel
theorem d_ErrataRow_isEnough_50 : decode c_ErrataRow_isEnough 50 = .ok (.iinc 3 1, 3) := by decide +kernel
theorem d_ErrataRow_isEnough_53 : decode c_ErrataRow_isEnough 53 = .ok (.goto (-32), 3) := by decide +kernel
theorem d_ErrataRow_isEnough_56 : decode c_ErrataRow_isEnough 56 = .ok (.iconst 1, 1) := by decide +kernel
theorem d_ErrataRow_isEnough_57 : decode c_ErrataRow_isEnough 57 = .ok (.ireturn, 1) := by decide +kernel
abbrev c_ErrataRow_rests : ByteArray := prog_1_method_47_code
def y_ErrataRow_rests : MethodName := ⟨RX11, "rests", "(IIII)I"⟩
theorem d_ErrataRow_rests_0 : decode c_ErrataRow_rests 0 = .ok (.aload_n 0, 1) := by decide +kernel
theorem d_ErrataRow_rests_1 : decode c_ErrataRow_rests 1 = .ok (.iload_n 1, 1) := by decide +kernel
theorem d_ErrataRow_rests_2 : decode c_ErrataRow_rests 2 = .ok (.invokevirtual 141, 3) := by decide +kernel
theorem d_ErrataRow_rests_5 : decode c_ErrataRow_rests 5 = .ok (.ifCond .eq 16, 3) := by decide +kernel
theorem d_ErrataRow_rests_8 : decode c_ErrataRow_rests 8 = .ok (.aload_n 0, 1) := by decide +kernel
theorem d_ErrataRow_rests_9 : decode c_ErrataRow_rests 9 = .ok (.iload_n 2, 1) := by decide +kernel
theorem d_ErrataRow_rests_10 : decode c_ErrataRow_rests 10 = .ok (.invokevirtual 141, 3) := by decide +kernel
theorem d_ErrataRow_rests_13 : decode c_ErrataRow_rests 13 = .ok (.ifCond .eq 8, 3) := by decide +kernel
theorem d_ErrataRow_rests_16 : decode c_ErrataRow_rests 16 = .ok (.iload_n 1, 1) := by decide +kernel
theorem d_ErrataRow_rests_17 : decode c_ErrataRow_rests 17 = .ok (.iload_n 2, 1) := by decide +kernel
theorem d_ErrataRow_rests_18 : decode c_ErrataRow_rests 18 = .ok (.if_icmp .ne 5, 3) := by decide +kernel
theorem d_ErrataRow_rests_21 : decode c_ErrataRow_rests 21 = .ok (.iconst (-1), 1) := by decide +kernel
theorem d_ErrataRow_rests_22 : decode c_ErrataRow_rests 22 = .ok (.ireturn, 1) := by decide +kernel
theorem d_ErrataRow_rests_23 : decode c_ErrataRow_rests 23 = .ok (.iload_n 3, 1) := by decide +kernel
theorem d_ErrataRow_rests_24 : decode c_ErrataRow_rests 24 = .ok (.iconst 1, 1) := by decide +kernel
theorem d_ErrataRow_rests_25 : decode c_ErrataRow_rests 25 = .ok (.bipush 20, 2) := by decide +kernel
theorem d_ErrataRow_rests_27 : decode c_ErrataRow_rests 27 = .ok (.invokestatic 166, 3) := by decide +kernel
theorem d_ErrataRow_rests_30 : decode c_ErrataRow_rests 30 = .ok (.ifCond .eq 13, 3) := by decide +kernel
theorem d_ErrataRow_rests_33 : decode c_ErrataRow_rests 33 = .ok (.iload 4, 2) := by decide +kernel
theorem d_ErrataRow_rests_35 : decode c_ErrataRow_rests 35 = .ok (.iconst 0, 1) := by decide +kernel
theorem d_ErrataRow_rests_36 : decode c_ErrataRow_rests 36 = .ok (.iconst 2, 1) := by decide +kernel
theorem d_ErrataRow_rests_37 : decode c_ErrataRow_rests 37 = .ok (.invokestatic 166, 3) := by decide +kernel
theorem d_ErrataRow_rests_40 : decode c_ErrataRow_rests 40 = .ok (.ifCond .ne 5, 3) := by decide +kernel
theorem d_ErrataRow_rests_43 : decode c_ErrataRow_rests 43 = .ok (.iconst (-1), 1) := by decide +kernel
theorem d_ErrataRow_rests_44 : decode c_ErrataRow_rests 44 = .ok (.ireturn, 1) := by decide +kernel
theorem d_ErrataRow_rests_45 : decode c_ErrataRow_rests 45 = .ok (.iconst 0, 1) := by decide +kernel
theorem d_ErrataRow_rests_46 : decode c_ErrataRow_rests 46 = .ok (.istore 5, 2) := by decide +kernel
theorem d_ErrataRow_rests_48 : decode c_ErrataRow_rests 48 = .ok (.iload 5, 2) := by decide +kernel
theorem d_ErrataRow_rests_50 : decode c_ErrataRow_rests 50 = .ok (.bipush 64, 2) := by decide +kernel
theorem d_ErrataRow_rests_52 : decode c_ErrataRow_rests 52 = .ok (.if_icmp .ge 18, 3) := by decide +kernel
theorem d_ErrataRow_rests_55 : decode c_ErrataRow_rests 55 = .ok (.aload_n 0, 1) := by decide +kernel
theorem d_ErrataRow_rests_56 : decode c_ErrataRow_rests 56 = .ok (.iload_n 1, 1) := by decide +kernel
theorem d_ErrataRow_rests_57 : decode c_ErrataRow_rests 57 = .ok (.iload_n 2, 1) := by decide +kernel
theorem d_ErrataRow_rests_58 : decode c_ErrataRow_rests 58 = .ok (.iload_n 3, 1) := by decide +kernel
theorem d_ErrataRow_rests_59 : decode c_ErrataRow_rests 59 = .ok (.iload 5, 2) := by decide +kernel
theorem d_ErrataRow_rests_61 : decode c_ErrataRow_rests 61 = .ok (.invokevirtual 313, 3) := by decide +kernel
theorem d_ErrataRow_rests_64 : decode c_ErrataRow_rests 64 = .ok (.iinc 5 1, 3) := by decide +kernel
theorem d_ErrataRow_rests_67 : decode c_ErrataRow_rests 67 = .ok (.goto (-19), 3) := by decide +kernel
theorem d_ErrataRow_rests_70 : decode c_ErrataRow_rests 70 = .ok (.aload_n 0, 1) := by decide +kernel
theorem d_ErrataRow_rests_71 : decode c_ErrataRow_rests 71 = .ok (.iconst 0, 1) := by decide +kernel
theorem d_ErrataRow_rests_72 : decode c_ErrataRow_rests 72 = .ok (.bipush (-2), 2) := by decide +kernel
theorem d_ErrataRow_rests_74 : decode c_ErrataRow_rests 74 = .ok (.bipush (-2), 2) := by decide +kernel
theorem d_ErrataRow_rests_76 : decode c_ErrataRow_rests 76 = .ok (.invokevirtual 293, 3) := by decide +kernel
theorem d_ErrataRow_rests_79 : decode c_ErrataRow_rests 79 = .ok (.bipush 63, 2) := by decide +kernel
theorem d_ErrataRow_rests_81 : decode c_ErrataRow_rests 81 = .ok (.istore 5, 2) := by decide +kernel
theorem d_ErrataRow_rests_83 : decode c_ErrataRow_rests 83 = .ok (.iload 5, 2) := by decide +kernel
theorem d_ErrataRow_rests_85 : decode c_ErrataRow_rests 85 = .ok (.ifCond .lt 40, 3) := by decide +kernel
theorem d_ErrataRow_rests_88 : decode c_ErrataRow_rests 88 = .ok (.aload_n 0, 1) := by decide +kernel
theorem d_ErrataRow_rests_89 : decode c_ErrataRow_rests 89 = .ok (.iload 5, 2) := by decide +kernel
theorem d_ErrataRow_rests_91 : decode c_ErrataRow_rests 91 = .ok (.invokevirtual 317, 3) := by decide +kernel
theorem d_ErrataRow_rests_94 : decode c_ErrataRow_rests 94 = .ok (.ifCond .eq 25, 3) := by decide +kernel
theorem d_ErrataRow_rests_97 : decode c_ErrataRow_rests 97 = .ok (.aload_n 0, 1) := by decide +kernel
theorem d_ErrataRow_rests_98 : decode c_ErrataRow_rests 98 = .ok (.aload_n 0, 1) := by decide +kernel
theorem d_ErrataRow_rests_99 : decode c_ErrataRow_rests 99 = .ok (.getfield 89, 3) := by decide +kernel
theorem d_ErrataRow_rests_102 : decode c_ErrataRow_rests 102 = .ok (.iconst 0, 1) := by decide +kernel
theorem d_ErrataRow_rests_103 : decode c_ErrataRow_rests 103 = .ok (.iaload, 1) := by decide +kernel
theorem d_ErrataRow_rests_104 : decode c_ErrataRow_rests 104 = .ok (.iconst 1, 1) := by decide +kernel
theorem d_ErrataRow_rests_105 : decode c_ErrataRow_rests 105 = .ok (.iadd, 1) := by decide +kernel
theorem d_ErrataRow_rests_106 : decode c_ErrataRow_rests 106 = .ok (.iload 5, 2) := by decide +kernel
theorem d_ErrataRow_rests_108 : decode c_ErrataRow_rests 108 = .ok (.bipush 8, 2) := by decide +kernel
theorem d_ErrataRow_rests_110 : decode c_ErrataRow_rests 110 = .ok (.idiv, 1) := by decide +kernel
theorem d_ErrataRow_rests_111 : decode c_ErrataRow_rests 111 = .ok (.iload 5, 2) := by decide +kernel
theorem d_ErrataRow_rests_113 : decode c_ErrataRow_rests 113 = .ok (.bipush 8, 2) := by decide +kernel
theorem d_ErrataRow_rests_115 : decode c_ErrataRow_rests 115 = .ok (.irem, 1) := by decide +kernel
theorem d_ErrataRow_rests_116 : decode c_ErrataRow_rests 116 = .ok (.invokevirtual 293, 3) := by decide +kernel
theorem d_ErrataRow_rests_119 : decode c_ErrataRow_rests 119 = .ok (.iinc 5 (-1), 3) := by decide +kernel
theorem d_ErrataRow_rests_122 : decode c_ErrataRow_rests 122 = .ok (.goto (-39), 3) := by decide +kernel
theorem d_ErrataRow_rests_125 : decode c_ErrataRow_rests 125 = .ok (.aload_n 0, 1) := by decide +kernel
theorem d_ErrataRow_rests_126 : decode c_ErrataRow_rests 126 = .ok (.getfield 89, 3) := by decide +kernel
theorem d_ErrataRow_rests_129 : decode c_ErrataRow_rests 129 = .ok (.iload 4, 2) := by decide +kernel
theorem d_ErrataRow_rests_131 : decode c_ErrataRow_rests 131 = .ok (.iaload, 1) := by decide +kernel
theorem d_ErrataRow_rests_132 : decode c_ErrataRow_rests 132 = .ok (.ireturn, 1) := by decide +kernel
abbrev c_ErrataRow_findGains : ByteArray := prog_1_method_48_code
def y_ErrataRow_findGains : MethodName := ⟨RX11, "findGains", "(IIII)V"⟩
theorem d_ErrataRow_findGains_0 : decode c_ErrataRow_findGains 0 = .ok (.aload_n 0, 1) := by decide +kernel
theorem d_ErrataRow_findGains_1 : decode c_ErrataRow_findGains 1 = .ok (.aload_n 0, 1) := by decide +kernel
theorem d_ErrataRow_findGains_2 : decode c_ErrataRow_findGains 2 = .ok (.getfield 45, 3) := by decide +kernel
theorem d_ErrataRow_findGains_5 : decode c_ErrataRow_findGains 5 = .ok (.getfield 145, 3) := by decide +kernel
theorem d_ErrataRow_findGains_8 : decode c_ErrataRow_findGains 8 = .ok (.invokevirtual 252, 3) := by decide +kernel
theorem d_ErrataRow_findGains_11 : decode c_ErrataRow_findGains 11 = .ok (.aload_n 0, 1) := by decide +kernel
theorem d_ErrataRow_findGains_12 : decode c_ErrataRow_findGains 12 = .ok (.getfield 85, 3) := by decide +kernel
theorem d_ErrataRow_findGains_15 : decode c_ErrataRow_findGains 15 = .ok (.getfield 148, 3) := by decide +kernel
theorem d_ErrataRow_findGains_18 : decode c_ErrataRow_findGains 18 = .ok (.iload_n 1, 1) := by decide +kernel
theorem d_ErrataRow_findGains_19 : decode c_ErrataRow_findGains 19 = .ok (.iload 4, 2) := by decide +kernel
theorem d_ErrataRow_findGains_21 : decode c_ErrataRow_findGains 21 = .ok (.bipush 8, 2) := by decide +kernel
theorem d_ErrataRow_findGains_23 : decode c_ErrataRow_findGains 23 = .ok (.idiv, 1) := by decide +kernel
theorem d_ErrataRow_findGains_24 : decode c_ErrataRow_findGains 24 = .ok (.iastore, 1) := by decide +kernel
theorem d_ErrataRow_findGains_25 : decode c_ErrataRow_findGains 25 = .ok (.aload_n 0, 1) := by decide +kernel
theorem d_ErrataRow_findGains_26 : decode c_ErrataRow_findGains 26 = .ok (.getfield 85, 3) := by decide +kernel
theorem d_ErrataRow_findGains_29 : decode c_ErrataRow_findGains 29 = .ok (.getfield 148, 3) := by decide +kernel
theorem d_ErrataRow_findGains_32 : decode c_ErrataRow_findGains 32 = .ok (.iload_n 2, 1) := by decide +kernel
theorem d_ErrataRow_findGains_33 : decode c_ErrataRow_findGains 33 = .ok (.iload 4, 2) := by decide +kernel
theorem d_ErrataRow_findGains_35 : decode c_ErrataRow_findGains 35 = .ok (.bipush 8, 2) := by decide +kernel
theorem d_ErrataRow_findGains_37 : decode c_ErrataRow_findGains 37 = .ok (.irem, 1) := by decide +kernel
theorem d_ErrataRow_findGains_38 : decode c_ErrataRow_findGains 38 = .ok (.iastore, 1) := by decide +kernel
theorem d_ErrataRow_findGains_39 : decode c_ErrataRow_findGains 39 = .ok (.aload_n 0, 1) := by decide +kernel
theorem d_ErrataRow_findGains_40 : decode c_ErrataRow_findGains 40 = .ok (.getfield 95, 3) := by decide +kernel
theorem d_ErrataRow_findGains_43 : decode c_ErrataRow_findGains 43 = .ok (.iconst 2, 1) := by decide +kernel
theorem d_ErrataRow_findGains_44 : decode c_ErrataRow_findGains 44 = .ok (.iload 4, 2) := by decide +kernel
theorem d_ErrataRow_findGains_46 : decode c_ErrataRow_findGains 46 = .ok (.imul, 1) := by decide +kernel
theorem d_ErrataRow_findGains_47 : decode c_ErrataRow_findGains 47 = .ok (.iconst 0, 1) := by decide +kernel
theorem d_ErrataRow_findGains_48 : decode c_ErrataRow_findGains 48 = .ok (.iastore, 1) := by decide +kernel
theorem d_ErrataRow_findGains_49 : decode c_ErrataRow_findGains 49 = .ok (.aload_n 0, 1) := by decide +kernel
theorem d_ErrataRow_findGains_50 : decode c_ErrataRow_findGains 50 = .ok (.getfield 95, 3) := by decide +kernel
theorem d_ErrataRow_findGains_53 : decode c_ErrataRow_findGains 53 = .ok (.iconst 2, 1) := by decide +kernel
theorem d_ErrataRow_findGains_54 : decode c_ErrataRow_findGains 54 = .ok (.iload 4, 2) := by decide +kernel
theorem d_ErrataRow_findGains_56 : decode c_ErrataRow_findGains 56 = .ok (.imul, 1) := by decide +kernel
theorem d_ErrataRow_findGains_57 : decode c_ErrataRow_findGains 57 = .ok (.iconst 1, 1) := by decide +kernel
theorem d_ErrataRow_findGains_58 : decode c_ErrataRow_findGains 58 = .ok (.iadd, 1) := by decide +kernel
theorem d_ErrataRow_findGains_59 : decode c_ErrataRow_findGains 59 = .ok (.iconst 0, 1) := by decide +kernel
theorem d_ErrataRow_findGains_60 : decode c_ErrataRow_findGains 60 = .ok (.iastore, 1) := by decide +kernel
theorem d_ErrataRow_findGains_61 : decode c_ErrataRow_findGains 61 = .ok (.iconst 0, 1) := by decide +kernel
theorem d_ErrataRow_findGains_62 : decode c_ErrataRow_findGains 62 = .ok (.istore 5, 2) := by decide +kernel
theorem d_ErrataRow_findGains_64 : decode c_ErrataRow_findGains 64 = .ok (.iload 5, 2) := by decide +kernel
theorem d_ErrataRow_findGains_66 : decode c_ErrataRow_findGains 66 = .ok (.iload_n 3, 1) := by decide +kernel
theorem d_ErrataRow_findGains_67 : decode c_ErrataRow_findGains 67 = .ok (.if_icmp .ge 63, 3) := by decide +kernel
theorem d_ErrataRow_findGains_70 : decode c_ErrataRow_findGains 70 = .ok (.aload_n 0, 1) := by decide +kernel
theorem d_ErrataRow_findGains_71 : decode c_ErrataRow_findGains 71 = .ok (.getfield 69, 3) := by decide +kernel
theorem d_ErrataRow_findGains_74 : decode c_ErrataRow_findGains 74 = .ok (.aload_n 0, 1) := by decide +kernel
theorem d_ErrataRow_findGains_75 : decode c_ErrataRow_findGains 75 = .ok (.getfield 85, 3) := by decide +kernel
theorem d_ErrataRow_findGains_78 : decode c_ErrataRow_findGains 78 = .ok (.invokevirtual 215, 3) := by decide +kernel
theorem d_ErrataRow_findGains_81 : decode c_ErrataRow_findGains 81 = .ok (.pop, 1) := by decide +kernel
theorem d_ErrataRow_findGains_82 : decode c_ErrataRow_findGains 82 = .ok (.aload_n 0, 1) := by decide +kernel
theorem d_ErrataRow_findGains_83 : decode c_ErrataRow_findGains 83 = .ok (.getfield 95, 3) := by decide +kernel
theorem d_ErrataRow_findGains_86 : decode c_ErrataRow_findGains 86 = .ok (.iconst 2, 1) := by decide +kernel
theorem d_ErrataRow_findGains_87 : decode c_ErrataRow_findGains 87 = .ok (.iload 4, 2) := by decide +kernel
theorem d_ErrataRow_findGains_89 : decode c_ErrataRow_findGains 89 = .ok (.imul, 1) := by decide +kernel
theorem d_ErrataRow_findGains_90 : decode c_ErrataRow_findGains 90 = .ok (.dup2, 1) := by decide +kernel
theorem d_ErrataRow_findGains_91 : decode c_ErrataRow_findGains 91 = .ok (.iaload, 1) := by decide +kernel
theorem d_ErrataRow_findGains_92 : decode c_ErrataRow_findGains 92 = .ok (.aload_n 0, 1) := by decide +kernel
theorem d_ErrataRow_findGains_93 : decode c_ErrataRow_findGains 93 = .ok (.getfield 69, 3) := by decide +kernel
theorem d_ErrataRow_findGains_96 : decode c_ErrataRow_findGains 96 = .ok (.iload_n 1, 1) := by decide +kernel
theorem d_ErrataRow_findGains_97 : decode c_ErrataRow_findGains 97 = .ok (.invokevirtual 320, 3) := by decide +kernel
theorem d_ErrataRow_findGains_100 : decode c_ErrataRow_findGains 100 = .ok (.iadd, 1) := by decide +kernel
theorem d_ErrataRow_findGains_101 : decode c_ErrataRow_findGains 101 = .ok (.iastore, 1) := by decide +kernel
theorem d_ErrataRow_findGains_102 : decode c_ErrataRow_findGains 102 = .ok (.aload_n 0, 1) := by decide +kernel
theorem d_ErrataRow_findGains_103 : decode c_ErrataRow_findGains 103 = .ok (.getfield 95, 3) := by decide +kernel
theorem d_ErrataRow_findGains_106 : decode c_ErrataRow_findGains 106 = .ok (.iconst 2, 1) := by decide +kernel
theorem d_ErrataRow_findGains_107 : decode c_ErrataRow_findGains 107 = .ok (.iload 4, 2) := by decide +kernel
theorem d_ErrataRow_findGains_109 : decode c_ErrataRow_findGains 109 = .ok (.imul, 1) := by decide +kernel
theorem d_ErrataRow_findGains_110 : decode c_ErrataRow_findGains 110 = .ok (.iconst 1, 1) := by decide +kernel
theorem d_ErrataRow_findGains_111 : decode c_ErrataRow_findGains 111 = .ok (.iadd, 1) := by decide +kernel
theorem d_ErrataRow_findGains_112 : decode c_ErrataRow_findGains 112 = .ok (.dup2, 1) := by decide +kernel
theorem d_ErrataRow_findGains_113 : decode c_ErrataRow_findGains 113 = .ok (.iaload, 1) := by decide +kernel
theorem d_ErrataRow_findGains_114 : decode c_ErrataRow_findGains 114 = .ok (.aload_n 0, 1) := by decide +kernel
theorem d_ErrataRow_findGains_115 : decode c_ErrataRow_findGains 115 = .ok (.getfield 69, 3) := by decide +kernel
theorem d_ErrataRow_findGains_118 : decode c_ErrataRow_findGains 118 = .ok (.iload_n 2, 1) := by decide +kernel
theorem d_ErrataRow_findGains_119 : decode c_ErrataRow_findGains 119 = .ok (.invokevirtual 320, 3) := by decide +kernel
theorem d_ErrataRow_findGains_122 : decode c_ErrataRow_findGains 122 = .ok (.iadd, 1) := by decide +kernel
theorem d_ErrataRow_findGains_123 : decode c_ErrataRow_findGains 123 = .ok (.iastore, 1) := by decide +kernel
theorem d_ErrataRow_findGains_124 : decode c_ErrataRow_findGains 124 = .ok (.iinc 5 1, 3) := by decide +kernel
theorem d_ErrataRow_findGains_127 : decode c_ErrataRow_findGains 127 = .ok (.goto (-63), 3) := by decide +kernel
theorem d_ErrataRow_findGains_130 : decode c_ErrataRow_findGains 130 = .ok (.return_, 1) := by decide +kernel
abbrev c_ErrataRow_isRest : ByteArray := prog_1_method_49_code
def y_ErrataRow_isRest : MethodName := ⟨RX11, "isRest", "(I)Z"⟩
theorem d_ErrataRow_isRest_0 : decode c_ErrataRow_isRest 0 = .ok (.iload_n 1, 1) := by decide +kernel
theorem d_ErrataRow_isRest_1 : decode c_ErrataRow_isRest 1 = .ok (.bipush 8, 2) := by decide +kernel
theorem d_ErrataRow_isRest_3 : decode c_ErrataRow_isRest 3 = .ok (.idiv, 1) := by decide +kernel
theorem d_ErrataRow_isRest_4 : decode c_ErrataRow_isRest 4 = .ok (.istore_n 2, 1) := by decide +kernel
theorem d_ErrataRow_isRest_5 : decode c_ErrataRow_isRest 5 = .ok (.iload_n 1, 1) := by decide +kernel
theorem d_ErrataRow_isRest_6 : decode c_ErrataRow_isRest 6 = .ok (.bipush 8, 2) := by decide +kernel
theorem d_ErrataRow_isRest_8 : decode c_ErrataRow_isRest 8 = .ok (.irem, 1) := by decide +kernel
theorem d_ErrataRow_isRest_9 : decode c_ErrataRow_isRest 9 = .ok (.istore_n 3, 1) := by decide +kernel
theorem d_ErrataRow_isRest_10 : decode c_ErrataRow_isRest 10 = .ok (.iconst 0, 1) := by decide +kernel
theorem d_ErrataRow_isRest_11 : decode c_ErrataRow_isRest 11 = .ok (.istore 4, 2) := by decide +kernel
theorem d_ErrataRow_isRest_13 : decode c_ErrataRow_isRest 13 = .ok (.iload 4, 2) := by decide +kernel
theorem d_ErrataRow_isRest_15 : decode c_ErrataRow_isRest 15 = .ok (.bipush 8, 2) := by decide +kernel
theorem d_ErrataRow_isRest_17 : decode c_ErrataRow_isRest 17 = .ok (.if_icmp .ge 67, 3) := by decide +kernel
theorem d_ErrataRow_isRest_20 : decode c_ErrataRow_isRest 20 = .ok (.aload_n 0, 1) := by decide +kernel
theorem d_ErrataRow_isRest_21 : decode c_ErrataRow_isRest 21 = .ok (.getfield 95, 3) := by decide +kernel
theorem d_ErrataRow_isRest_24 : decode c_ErrataRow_isRest 24 = .ok (.iconst 2, 1) := by decide +kernel
theorem d_ErrataRow_isRest_25 : decode c_ErrataRow_isRest 25 = .ok (.iload 4, 2) := by decide +kernel
theorem d_ErrataRow_isRest_27 : decode c_ErrataRow_isRest 27 = .ok (.bipush 8, 2) := by decide +kernel
theorem d_ErrataRow_isRest_29 : decode c_ErrataRow_isRest 29 = .ok (.imul, 1) := by decide +kernel
theorem d_ErrataRow_isRest_30 : decode c_ErrataRow_isRest 30 = .ok (.iload_n 3, 1) := by decide +kernel
theorem d_ErrataRow_isRest_31 : decode c_ErrataRow_isRest 31 = .ok (.iadd, 1) := by decide +kernel
theorem d_ErrataRow_isRest_32 : decode c_ErrataRow_isRest 32 = .ok (.imul, 1) := by decide +kernel
theorem d_ErrataRow_isRest_33 : decode c_ErrataRow_isRest 33 = .ok (.iaload, 1) := by decide +kernel
theorem d_ErrataRow_isRest_34 : decode c_ErrataRow_isRest 34 = .ok (.aload_n 0, 1) := by decide +kernel
theorem d_ErrataRow_isRest_35 : decode c_ErrataRow_isRest 35 = .ok (.getfield 95, 3) := by decide +kernel
theorem d_ErrataRow_isRest_38 : decode c_ErrataRow_isRest 38 = .ok (.iconst 2, 1) := by decide +kernel
theorem d_ErrataRow_isRest_39 : decode c_ErrataRow_isRest 39 = .ok (.iload_n 1, 1) := by decide +kernel
theorem d_ErrataRow_isRest_40 : decode c_ErrataRow_isRest 40 = .ok (.imul, 1) := by decide +kernel
theorem d_ErrataRow_isRest_41 : decode c_ErrataRow_isRest 41 = .ok (.iaload, 1) := by decide +kernel
theorem d_ErrataRow_isRest_42 : decode c_ErrataRow_isRest 42 = .ok (.if_icmp .le 5, 3) := by decide +kernel
theorem d_ErrataRow_isRest_45 : decode c_ErrataRow_isRest 45 = .ok (.iconst 0, 1) := by decide +kernel
theorem d_ErrataRow_isRest_46 : decode c_ErrataRow_isRest 46 = .ok (.ireturn, 1) := by decide +kernel
theorem d_ErrataRow_isRest_47 : decode c_ErrataRow_isRest 47 = .ok (.aload_n 0, 1) := by decide +kernel
theorem d_ErrataRow_isRest_48 : decode c_ErrataRow_isRest 48 = .ok (.getfield 95, 3) := by decide +kernel
theorem d_ErrataRow_isRest_51 : decode c_ErrataRow_isRest 51 = .ok (.iconst 2, 1) := by decide +kernel
theorem d_ErrataRow_isRest_52 : decode c_ErrataRow_isRest 52 = .ok (.iload_n 2, 1) := by decide +kernel
theorem d_ErrataRow_isRest_53 : decode c_ErrataRow_isRest 53 = .ok (.bipush 8, 2) := by decide +kernel
theorem d_ErrataRow_isRest_55 : decode c_ErrataRow_isRest 55 = .ok (.imul, 1) := by decide +kernel
theorem d_ErrataRow_isRest_56 : decode c_ErrataRow_isRest 56 = .ok (.iload 4, 2) := by decide +kernel
theorem d_ErrataRow_isRest_58 : decode c_ErrataRow_isRest 58 = .ok (.iadd, 1) := by decide +kernel
theorem d_ErrataRow_isRest_59 : decode c_ErrataRow_isRest 59 = .ok (.imul, 1) := by decide +kernel
theorem d_ErrataRow_isRest_60 : decode c_ErrataRow_isRest 60 = .ok (.iconst 1, 1) := by decide +kernel
theorem d_ErrataRow_isRest_61 : decode c_ErrataRow_isRest 61 = .ok (.iadd, 1) := by decide +kernel
theorem d_ErrataRow_isRest_62 : decode c_ErrataRow_isRest 62 = .ok (.iaload, 1) := by decide +kernel
theorem d_ErrataRow_isRest_63 : decode c_ErrataRow_isRest 63 = .ok (.aload_n 0, 1) := by decide +kernel
theorem d_ErrataRow_isRest_64 : decode c_ErrataRow_isRest 64 = .ok (.getfield 95, 3) := by decide +kernel
theorem d_ErrataRow_isRest_67 : decode c_ErrataRow_isRest 67 = .ok (.iconst 2, 1) := by decide +kernel
theorem d_ErrataRow_isRest_68 : decode c_ErrataRow_isRest 68 = .ok (.iload_n 1, 1) := by decide +kernel
theorem d_ErrataRow_isRest_69 : decode c_ErrataRow_isRest 69 = .ok (.imul, 1) := by decide +kernel
theorem d_ErrataRow_isRest_70 : decode c_ErrataRow_isRest 70 = .ok (.iconst 1, 1) := by decide +kernel
theorem d_ErrataRow_isRest_71 : decode c_ErrataRow_isRest 71 = .ok (.iadd, 1) := by decide +kernel
theorem d_ErrataRow_isRest_72 : decode c_ErrataRow_isRest 72 = .ok (.iaload, 1) := by decide +kernel
theorem d_ErrataRow_isRest_73 : decode c_ErrataRow_isRest 73 = .ok (.if_icmp .le 5, 3) := by decide +kernel
theorem d_ErrataRow_isRest_76 : decode c_ErrataRow_isRest 76 = .ok (.iconst 0, 1) := by decide +kernel
theorem d_ErrataRow_isRest_77 : decode c_ErrataRow_isRest 77 = .ok (.ireturn, 1) := by decide +kernel
theorem d_ErrataRow_isRest_78 : decode c_ErrataRow_isRest 78 = .ok (.iinc 4 1, 3) := by decide +kernel
theorem d_ErrataRow_isRest_81 : decode c_ErrataRow_isRest 81 = .ok (.goto (-68), 3) := by decide +kernel
theorem d_ErrataRow_isRest_84 : decode c_ErrataRow_isRest 84 = .ok (.iconst 1, 1) := by decide +kernel
theorem d_ErrataRow_isRest_85 : decode c_ErrataRow_isRest 85 = .ok (.ireturn, 1) := by decide +kernel
abbrev c_ErrataRow_note : ByteArray := prog_1_method_50_code
def y_ErrataRow_note : MethodName := ⟨RX11, "note", "(III)I"⟩
theorem d_ErrataRow_note_0 : decode c_ErrataRow_note 0 = .ok (.aload_n 0, 1) := by decide +kernel
theorem d_ErrataRow_note_1 : decode c_ErrataRow_note 1 = .ok (.getfield 45, 3) := by decide +kernel
theorem d_ErrataRow_note_4 : decode c_ErrataRow_note 4 = .ok (.getfield 195, 3) := by decide +kernel
theorem d_ErrataRow_note_7 : decode c_ErrataRow_note 7 = .ok (.astore 4, 2) := by decide +kernel
theorem d_ErrataRow_note_9 : decode c_ErrataRow_note 9 = .ok (.iload_n 1, 1) := by decide +kernel
theorem d_ErrataRow_note_10 : decode c_ErrataRow_note 10 = .ok (.iconst (-1), 1) := by decide +kernel
theorem d_ErrataRow_note_11 : decode c_ErrataRow_note 11 = .ok (.if_icmp .ne 11, 3) := by decide +kernel
theorem d_ErrataRow_note_14 : decode c_ErrataRow_note 14 = .ok (.aload 4, 2) := by decide +kernel
theorem d_ErrataRow_note_16 : decode c_ErrataRow_note 16 = .ok (.iconst 0, 1) := by decide +kernel
theorem d_ErrataRow_note_17 : decode c_ErrataRow_note 17 = .ok (.putfield 199, 3) := by decide +kernel
theorem d_ErrataRow_note_20 : decode c_ErrataRow_note 20 = .ok (.iconst 0, 1) := by decide +kernel
theorem d_ErrataRow_note_21 : decode c_ErrataRow_note 21 = .ok (.ireturn, 1) := by decide +kernel
theorem d_ErrataRow_note_22 : decode c_ErrataRow_note 22 = .ok (.iload_n 1, 1) := by decide +kernel
theorem d_ErrataRow_note_23 : decode c_ErrataRow_note 23 = .ok (.iconst 0, 1) := by decide +kernel
theorem d_ErrataRow_note_24 : decode c_ErrataRow_note 24 = .ok (.bipush 60, 2) := by decide +kernel
theorem d_ErrataRow_note_26 : decode c_ErrataRow_note 26 = .ok (.invokestatic 166, 3) := by decide +kernel
theorem d_ErrataRow_note_29 : decode c_ErrataRow_note 29 = .ok (.ifCond .eq 18, 3) := by decide +kernel
theorem d_ErrataRow_note_32 : decode c_ErrataRow_note 32 = .ok (.aload_n 0, 1) := by decide +kernel
theorem d_ErrataRow_note_33 : decode c_ErrataRow_note 33 = .ok (.iload_n 2, 1) := by decide +kernel
theorem d_ErrataRow_note_34 : decode c_ErrataRow_note 34 = .ok (.invokevirtual 141, 3) := by decide +kernel
theorem d_ErrataRow_note_37 : decode c_ErrataRow_note 37 = .ok (.ifCond .eq 10, 3) := by decide +kernel
theorem d_ErrataRow_note_40 : decode c_ErrataRow_note 40 = .ok (.iload_n 3, 1) := by decide +kernel
theorem d_ErrataRow_note_41 : decode c_ErrataRow_note 41 = .ok (.invokestatic 218, 3) := by decide +kernel
theorem d_ErrataRow_note_44 : decode c_ErrataRow_note 44 = .ok (.ifCond .ne 6, 3) := by decide +kernel
theorem d_ErrataRow_note_47 : decode c_ErrataRow_note 47 = .ok (.bipush (-2), 2) := by decide +kernel
theorem d_ErrataRow_note_49 : decode c_ErrataRow_note 49 = .ok (.ireturn, 1) := by decide +kernel
theorem d_ErrataRow_note_50 : decode c_ErrataRow_note 50 = .ok (.aload 4, 2) := by decide +kernel
theorem d_ErrataRow_note_52 : decode c_ErrataRow_note 52 = .ok (.getfield 199, 3) := by decide +kernel
theorem d_ErrataRow_note_55 : decode c_ErrataRow_note 55 = .ok (.bipush 10, 2) := by decide +kernel
theorem d_ErrataRow_note_57 : decode c_ErrataRow_note 57 = .ok (.if_icmp .lt 6, 3) := by decide +kernel
theorem d_ErrataRow_note_60 : decode c_ErrataRow_note 60 = .ok (.bipush (-2), 2) := by decide +kernel
theorem d_ErrataRow_note_62 : decode c_ErrataRow_note 62 = .ok (.ireturn, 1) := by decide +kernel
theorem d_ErrataRow_note_63 : decode c_ErrataRow_note 63 = .ok (.aload 4, 2) := by decide +kernel
theorem d_ErrataRow_note_65 : decode c_ErrataRow_note 65 = .ok (.iload_n 1, 1) := by decide +kernel
theorem d_ErrataRow_note_66 : decode c_ErrataRow_note 66 = .ok (.iload_n 2, 1) := by decide +kernel
theorem d_ErrataRow_note_67 : decode c_ErrataRow_note 67 = .ok (.iload_n 3, 1) := by decide +kernel
theorem d_ErrataRow_note_68 : decode c_ErrataRow_note 68 = .ok (.invokevirtual 323, 3) := by decide +kernel
theorem d_ErrataRow_note_71 : decode c_ErrataRow_note 71 = .ok (.aload 4, 2) := by decide +kernel
theorem d_ErrataRow_note_73 : decode c_ErrataRow_note 73 = .ok (.getfield 199, 3) := by decide +kernel
theorem d_ErrataRow_note_76 : decode c_ErrataRow_note 76 = .ok (.ireturn, 1) := by decide +kernel
abbrev c_ErrataRow_putAs : ByteArray := prog_1_method_51_code
def y_ErrataRow_putAs : MethodName := ⟨RX11, "putAs", "(I)I"⟩
theorem d_ErrataRow_putAs_0 : decode c_ErrataRow_putAs 0 = .ok (.aload_n 0, 1) := by decide +kernel
theorem d_ErrataRow_putAs_1 : decode c_ErrataRow_putAs 1 = .ok (.iload_n 1, 1) := by decide +kernel
theorem d_ErrataRow_putAs_2 : decode c_ErrataRow_putAs 2 = .ok (.invokevirtual 141, 3) := by decide +kernel
theorem d_ErrataRow_putAs_5 : decode c_ErrataRow_putAs 5 = .ok (.ifCond .ne 5, 3) := by decide +kernel
theorem d_ErrataRow_putAs_8 : decode c_ErrataRow_putAs 8 = .ok (.iconst (-1), 1) := by decide +kernel
theorem d_ErrataRow_putAs_9 : decode c_ErrataRow_putAs 9 = .ok (.ireturn, 1) := by decide +kernel
theorem d_ErrataRow_putAs_10 : decode c_ErrataRow_putAs 10 = .ok (.iconst 0, 1) := by decide +kernel
theorem d_ErrataRow_putAs_11 : decode c_ErrataRow_putAs 11 = .ok (.istore_n 2, 1) := by decide +kernel
theorem d_ErrataRow_putAs_12 : decode c_ErrataRow_putAs 12 = .ok (.iconst 0, 1) := by decide +kernel
theorem d_ErrataRow_putAs_13 : decode c_ErrataRow_putAs 13 = .ok (.istore_n 3, 1) := by decide +kernel
theorem d_ErrataRow_putAs_14 : decode c_ErrataRow_putAs 14 = .ok (.iload_n 3, 1) := by decide +kernel
theorem d_ErrataRow_putAs_15 : decode c_ErrataRow_putAs 15 = .ok (.bipush 8, 2) := by decide +kernel
theorem d_ErrataRow_putAs_17 : decode c_ErrataRow_putAs 17 = .ok (.if_icmp .ge 46, 3) := by decide +kernel
theorem d_ErrataRow_putAs_20 : decode c_ErrataRow_putAs 20 = .ok (.aload_n 0, 1) := by decide +kernel
theorem d_ErrataRow_putAs_21 : decode c_ErrataRow_putAs 21 = .ok (.aload_n 0, 1) := by decide +kernel
theorem d_ErrataRow_putAs_22 : decode c_ErrataRow_putAs 22 = .ok (.getfield 45, 3) := by decide +kernel
theorem d_ErrataRow_putAs_25 : decode c_ErrataRow_putAs 25 = .ok (.getfield 62, 3) := by decide +kernel
theorem d_ErrataRow_putAs_28 : decode c_ErrataRow_putAs 28 = .ok (.getfield 326, 3) := by decide +kernel
theorem d_ErrataRow_putAs_31 : decode c_ErrataRow_putAs 31 = .ok (.invokevirtual 252, 3) := by decide +kernel
theorem d_ErrataRow_putAs_34 : decode c_ErrataRow_putAs 34 = .ok (.aload_n 0, 1) := by decide +kernel
theorem d_ErrataRow_putAs_35 : decode c_ErrataRow_putAs 35 = .ok (.getfield 85, 3) := by decide +kernel
theorem d_ErrataRow_putAs_38 : decode c_ErrataRow_putAs 38 = .ok (.getfield 148, 3) := by decide +kernel
theorem d_ErrataRow_putAs_41 : decode c_ErrataRow_putAs 41 = .ok (.iload_n 1, 1) := by decide +kernel
theorem d_ErrataRow_putAs_42 : decode c_ErrataRow_putAs 42 = .ok (.iload_n 3, 1) := by decide +kernel
theorem d_ErrataRow_putAs_43 : decode c_ErrataRow_putAs 43 = .ok (.iastore, 1) := by decide +kernel
theorem d_ErrataRow_putAs_44 : decode c_ErrataRow_putAs 44 = .ok (.aload_n 0, 1) := by decide +kernel
theorem d_ErrataRow_putAs_45 : decode c_ErrataRow_putAs 45 = .ok (.invokevirtual 329, 3) := by decide +kernel
theorem d_ErrataRow_putAs_48 : decode c_ErrataRow_putAs 48 = .ok (.ifCond .eq 9, 3) := by decide +kernel
theorem d_ErrataRow_putAs_51 : decode c_ErrataRow_putAs 51 = .ok (.iload_n 2, 1) := by decide +kernel
theorem d_ErrataRow_putAs_52 : decode c_ErrataRow_putAs 52 = .ok (.iconst 1, 1) := by decide +kernel
theorem d_ErrataRow_putAs_53 : decode c_ErrataRow_putAs 53 = .ok (.iload_n 3, 1) := by decide +kernel
theorem d_ErrataRow_putAs_54 : decode c_ErrataRow_putAs 54 = .ok (.ishl, 1) := by decide +kernel
theorem d_ErrataRow_putAs_55 : decode c_ErrataRow_putAs 55 = .ok (.ior, 1) := by decide +kernel
theorem d_ErrataRow_putAs_56 : decode c_ErrataRow_putAs 56 = .ok (.istore_n 2, 1) := by decide +kernel
theorem d_ErrataRow_putAs_57 : decode c_ErrataRow_putAs 57 = .ok (.iinc 3 1, 3) := by decide +kernel
theorem d_ErrataRow_putAs_60 : decode c_ErrataRow_putAs 60 = .ok (.goto (-46), 3) := by decide +kernel
theorem d_ErrataRow_putAs_63 : decode c_ErrataRow_putAs 63 = .ok (.iload_n 2, 1) := by decide +kernel
theorem d_ErrataRow_putAs_64 : decode c_ErrataRow_putAs 64 = .ok (.ireturn, 1) := by decide +kernel
abbrev c_ErrataRow_areNotesSo : ByteArray := prog_1_method_52_code
def y_ErrataRow_areNotesSo : MethodName := ⟨RX11, "areNotesSo", "()Z"⟩
theorem d_ErrataRow_areNotesSo_0 : decode c_ErrataRow_areNotesSo 0 = .ok (.aload_n 0, 1) := by decide +kernel
theorem d_ErrataRow_areNotesSo_1 : decode c_ErrataRow_areNotesSo 1 = .ok (.getfield 45, 3) := by decide +kernel
theorem d_ErrataRow_areNotesSo_4 : decode c_ErrataRow_areNotesSo 4 = .ok (.getfield 195, 3) := by decide +kernel
theorem d_ErrataRow_areNotesSo_7 : decode c_ErrataRow_areNotesSo 7 = .ok (.invokevirtual 333, 3) := by decide +kernel
theorem d_ErrataRow_areNotesSo_10 : decode c_ErrataRow_areNotesSo 10 = .ok (.istore_n 1, 1) := by decide +kernel
theorem d_ErrataRow_areNotesSo_11 : decode c_ErrataRow_areNotesSo 11 = .ok (.iconst 0, 1) := by decide +kernel
theorem d_ErrataRow_areNotesSo_12 : decode c_ErrataRow_areNotesSo 12 = .ok (.istore_n 2, 1) := by decide +kernel
theorem d_ErrataRow_areNotesSo_13 : decode c_ErrataRow_areNotesSo 13 = .ok (.iload_n 2, 1) := by decide +kernel
theorem d_ErrataRow_areNotesSo_14 : decode c_ErrataRow_areNotesSo 14 = .ok (.iload_n 1, 1) := by decide +kernel
theorem d_ErrataRow_areNotesSo_15 : decode c_ErrataRow_areNotesSo 15 = .ok (.if_icmp .gt 44, 3) := by decide +kernel
theorem d_ErrataRow_areNotesSo_18 : decode c_ErrataRow_areNotesSo 18 = .ok (.aload_n 0, 1) := by decide +kernel
theorem d_ErrataRow_areNotesSo_19 : decode c_ErrataRow_areNotesSo 19 = .ok (.getfield 69, 3) := by decide +kernel
theorem d_ErrataRow_areNotesSo_22 : decode c_ErrataRow_areNotesSo 22 = .ok (.aload_n 0, 1) := by decide +kernel
theorem d_ErrataRow_areNotesSo_23 : decode c_ErrataRow_areNotesSo 23 = .ok (.getfield 85, 3) := by decide +kernel
theorem d_ErrataRow_areNotesSo_26 : decode c_ErrataRow_areNotesSo 26 = .ok (.invokevirtual 215, 3) := by decide +kernel
theorem d_ErrataRow_areNotesSo_29 : decode c_ErrataRow_areNotesSo 29 = .ok (.pop, 1) := by decide +kernel
theorem d_ErrataRow_areNotesSo_30 : decode c_ErrataRow_areNotesSo 30 = .ok (.aload_n 0, 1) := by decide +kernel
theorem d_ErrataRow_areNotesSo_31 : decode c_ErrataRow_areNotesSo 31 = .ok (.getfield 45, 3) := by decide +kernel
theorem d_ErrataRow_areNotesSo_34 : decode c_ErrataRow_areNotesSo 34 = .ok (.getfield 195, 3) := by decide +kernel
theorem d_ErrataRow_areNotesSo_37 : decode c_ErrataRow_areNotesSo 37 = .ok (.iload_n 2, 1) := by decide +kernel
theorem d_ErrataRow_areNotesSo_38 : decode c_ErrataRow_areNotesSo 38 = .ok (.aload_n 0, 1) := by decide +kernel
theorem d_ErrataRow_areNotesSo_39 : decode c_ErrataRow_areNotesSo 39 = .ok (.getfield 85, 3) := by decide +kernel
theorem d_ErrataRow_areNotesSo_42 : decode c_ErrataRow_areNotesSo 42 = .ok (.getfield 148, 3) := by decide +kernel
theorem d_ErrataRow_areNotesSo_45 : decode c_ErrataRow_areNotesSo 45 = .ok (.invokevirtual 336, 3) := by decide +kernel
theorem d_ErrataRow_areNotesSo_48 : decode c_ErrataRow_areNotesSo 48 = .ok (.ifCond .ne 5, 3) := by decide +kernel
theorem d_ErrataRow_areNotesSo_51 : decode c_ErrataRow_areNotesSo 51 = .ok (.iconst 0, 1) := by decide +kernel
theorem d_ErrataRow_areNotesSo_52 : decode c_ErrataRow_areNotesSo 52 = .ok (.ireturn, 1) := by decide +kernel
theorem d_ErrataRow_areNotesSo_53 : decode c_ErrataRow_areNotesSo 53 = .ok (.iinc 2 1, 3) := by decide +kernel
theorem d_ErrataRow_areNotesSo_56 : decode c_ErrataRow_areNotesSo 56 = .ok (.goto (-43), 3) := by decide +kernel
theorem d_ErrataRow_areNotesSo_59 : decode c_ErrataRow_areNotesSo 59 = .ok (.iconst 1, 1) := by decide +kernel
theorem d_ErrataRow_areNotesSo_60 : decode c_ErrataRow_areNotesSo 60 = .ok (.ireturn, 1) := by decide +kernel
abbrev c_ErrataRow_startByRule : ByteArray := prog_1_method_53_code
def y_ErrataRow_startByRule : MethodName := ⟨RX11, "startByRule", "(I)V"⟩
theorem d_ErrataRow_startByRule_0 : decode c_ErrataRow_startByRule 0 = .ok (.aload_n 0, 1) := by decide +kernel
theorem d_ErrataRow_startByRule_1 : decode c_ErrataRow_startByRule 1 = .ok (.iload_n 1, 1) := by decide +kernel
theorem d_ErrataRow_startByRule_2 : decode c_ErrataRow_startByRule 2 = .ok (.invokevirtual 212, 3) := by decide +kernel
theorem d_ErrataRow_startByRule_5 : decode c_ErrataRow_startByRule 5 = .ok (.aload_n 0, 1) := by decide +kernel
theorem d_ErrataRow_startByRule_6 : decode c_ErrataRow_startByRule 6 = .ok (.getfield 85, 3) := by decide +kernel
theorem d_ErrataRow_startByRule_9 : decode c_ErrataRow_startByRule 9 = .ok (.aload_n 0, 1) := by decide +kernel
theorem d_ErrataRow_startByRule_10 : decode c_ErrataRow_startByRule 10 = .ok (.getfield 45, 3) := by decide +kernel
theorem d_ErrataRow_startByRule_13 : decode c_ErrataRow_startByRule 13 = .ok (.getfield 62, 3) := by decide +kernel
theorem d_ErrataRow_startByRule_16 : decode c_ErrataRow_startByRule 16 = .ok (.getfield 326, 3) := by decide +kernel
theorem d_ErrataRow_startByRule_19 : decode c_ErrataRow_startByRule 19 = .ok (.invokevirtual 249, 3) := by decide +kernel
theorem d_ErrataRow_startByRule_22 : decode c_ErrataRow_startByRule 22 = .ok (.return_, 1) := by decide +kernel
abbrev c_ErrataRow_ruled : ByteArray := prog_1_method_54_code
def y_ErrataRow_ruled : MethodName := ⟨RX11, "ruled", "(I)I"⟩
theorem d_ErrataRow_ruled_0 : decode c_ErrataRow_ruled 0 = .ok (.aload_n 0, 1) := by decide +kernel
theorem d_ErrataRow_ruled_1 : decode c_ErrataRow_ruled 1 = .ok (.getfield 45, 3) := by decide +kernel
theorem d_ErrataRow_ruled_4 : decode c_ErrataRow_ruled 4 = .ok (.getfield 62, 3) := by decide +kernel
theorem d_ErrataRow_ruled_7 : decode c_ErrataRow_ruled 7 = .ok (.getfield 160, 3) := by decide +kernel
theorem d_ErrataRow_ruled_10 : decode c_ErrataRow_ruled 10 = .ok (.ifCond .eq 12, 3) := by decide +kernel
theorem d_ErrataRow_ruled_13 : decode c_ErrataRow_ruled 13 = .ok (.iload_n 1, 1) := by decide +kernel
theorem d_ErrataRow_ruled_14 : decode c_ErrataRow_ruled 14 = .ok (.iconst 0, 1) := by decide +kernel
theorem d_ErrataRow_ruled_15 : decode c_ErrataRow_ruled 15 = .ok (.iconst 1, 1) := by decide +kernel
theorem d_ErrataRow_ruled_16 : decode c_ErrataRow_ruled 16 = .ok (.invokestatic 166, 3) := by decide +kernel
theorem d_ErrataRow_ruled_19 : decode c_ErrataRow_ruled 19 = .ok (.ifCond .ne 6, 3) := by decide +kernel
theorem d_ErrataRow_ruled_22 : decode c_ErrataRow_ruled 22 = .ok (.bipush (-3), 2) := by decide +kernel
theorem d_ErrataRow_ruled_24 : decode c_ErrataRow_ruled 24 = .ok (.ireturn, 1) := by decide +kernel
theorem d_ErrataRow_ruled_25 : decode c_ErrataRow_ruled 25 = .ok (.iconst 0, 1) := by decide +kernel
theorem d_ErrataRow_ruled_26 : decode c_ErrataRow_ruled 26 = .ok (.istore_n 2, 1) := by decide +kernel
theorem d_ErrataRow_ruled_27 : decode c_ErrataRow_ruled 27 = .ok (.bipush (-2), 2) := by decide +kernel
theorem d_ErrataRow_ruled_29 : decode c_ErrataRow_ruled 29 = .ok (.istore_n 3, 1) := by decide +kernel
theorem d_ErrataRow_ruled_30 : decode c_ErrataRow_ruled 30 = .ok (.aload_n 0, 1) := by decide +kernel
theorem d_ErrataRow_ruled_31 : decode c_ErrataRow_ruled 31 = .ok (.getfield 128, 3) := by decide +kernel
theorem d_ErrataRow_ruled_34 : decode c_ErrataRow_ruled 34 = .ok (.iconst 1, 1) := by decide +kernel
theorem d_ErrataRow_ruled_35 : decode c_ErrataRow_ruled 35 = .ok (.isub, 1) := by decide +kernel
theorem d_ErrataRow_ruled_36 : decode c_ErrataRow_ruled 36 = .ok (.istore 4, 2) := by decide +kernel
theorem d_ErrataRow_ruled_38 : decode c_ErrataRow_ruled 38 = .ok (.iload 4, 2) := by decide +kernel
theorem d_ErrataRow_ruled_40 : decode c_ErrataRow_ruled 40 = .ok (.iconst (-1), 1) := by decide +kernel
theorem d_ErrataRow_ruled_41 : decode c_ErrataRow_ruled 41 = .ok (.if_icmp .lt 28, 3) := by decide +kernel
theorem d_ErrataRow_ruled_44 : decode c_ErrataRow_ruled 44 = .ok (.aload_n 0, 1) := by decide +kernel
theorem d_ErrataRow_ruled_45 : decode c_ErrataRow_ruled 45 = .ok (.iload 4, 2) := by decide +kernel
theorem d_ErrataRow_ruled_47 : decode c_ErrataRow_ruled 47 = .ok (.invokevirtual 340, 3) := by decide +kernel
theorem d_ErrataRow_ruled_50 : decode c_ErrataRow_ruled 50 = .ok (.aload_n 0, 1) := by decide +kernel
theorem d_ErrataRow_ruled_51 : decode c_ErrataRow_ruled 51 = .ok (.invokevirtual 329, 3) := by decide +kernel
theorem d_ErrataRow_ruled_54 : decode c_ErrataRow_ruled 54 = .ok (.ifCond .eq 9, 3) := by decide +kernel
theorem d_ErrataRow_ruled_57 : decode c_ErrataRow_ruled 57 = .ok (.iinc 2 1, 3) := by decide +kernel
theorem d_ErrataRow_ruled_60 : decode c_ErrataRow_ruled 60 = .ok (.iload 4, 2) := by decide +kernel
theorem d_ErrataRow_ruled_62 : decode c_ErrataRow_ruled 62 = .ok (.istore_n 3, 1) := by decide +kernel
theorem d_ErrataRow_ruled_63 : decode c_ErrataRow_ruled 63 = .ok (.iinc 4 (-1), 3) := by decide +kernel
theorem d_ErrataRow_ruled_66 : decode c_ErrataRow_ruled 66 = .ok (.goto (-28), 3) := by decide +kernel
theorem d_ErrataRow_ruled_69 : decode c_ErrataRow_ruled 69 = .ok (.iload_n 1, 1) := by decide +kernel
theorem d_ErrataRow_ruled_70 : decode c_ErrataRow_ruled 70 = .ok (.ifCond .ne 7, 3) := by decide +kernel
theorem d_ErrataRow_ruled_73 : decode c_ErrataRow_ruled 73 = .ok (.iload_n 2, 1) := by decide +kernel
theorem d_ErrataRow_ruled_74 : decode c_ErrataRow_ruled 74 = .ok (.goto 4, 3) := by decide +kernel
theorem d_ErrataRow_ruled_77 : decode c_ErrataRow_ruled 77 = .ok (.iload_n 3, 1) := by decide +kernel
theorem d_ErrataRow_ruled_78 : decode c_ErrataRow_ruled 78 = .ok (.ireturn, 1) := by decide +kernel
abbrev c_ErrataRow_look : ByteArray := prog_1_method_55_code
def y_ErrataRow_look : MethodName := ⟨RX11, "look", "(II)I"⟩
theorem d_ErrataRow_look_0 : decode c_ErrataRow_look 0 = .ok (.aload_n 0, 1) := by decide +kernel
theorem d_ErrataRow_look_1 : decode c_ErrataRow_look 1 = .ok (.getfield 45, 3) := by decide +kernel
theorem d_ErrataRow_look_4 : decode c_ErrataRow_look 4 = .ok (.getfield 62, 3) := by decide +kernel
theorem d_ErrataRow_look_7 : decode c_ErrataRow_look 7 = .ok (.getfield 160, 3) := by decide +kernel
theorem d_ErrataRow_look_10 : decode c_ErrataRow_look 10 = .ok (.ifCond .eq 22, 3) := by decide +kernel
theorem d_ErrataRow_look_13 : decode c_ErrataRow_look 13 = .ok (.iload_n 1, 1) := by decide +kernel
theorem d_ErrataRow_look_14 : decode c_ErrataRow_look 14 = .ok (.iconst 0, 1) := by decide +kernel
theorem d_ErrataRow_look_15 : decode c_ErrataRow_look 15 = .ok (.bipush 60, 2) := by decide +kernel
theorem d_ErrataRow_look_17 : decode c_ErrataRow_look 17 = .ok (.invokestatic 166, 3) := by decide +kernel
theorem d_ErrataRow_look_20 : decode c_ErrataRow_look 20 = .ok (.ifCond .eq 12, 3) := by decide +kernel
theorem d_ErrataRow_look_23 : decode c_ErrataRow_look 23 = .ok (.iload_n 2, 1) := by decide +kernel
theorem d_ErrataRow_look_24 : decode c_ErrataRow_look 24 = .ok (.iconst 0, 1) := by decide +kernel
theorem d_ErrataRow_look_25 : decode c_ErrataRow_look 25 = .ok (.iconst 1, 1) := by decide +kernel
theorem d_ErrataRow_look_26 : decode c_ErrataRow_look 26 = .ok (.invokestatic 166, 3) := by decide +kernel
theorem d_ErrataRow_look_29 : decode c_ErrataRow_look 29 = .ok (.ifCond .ne 5, 3) := by decide +kernel
theorem d_ErrataRow_look_32 : decode c_ErrataRow_look 32 = .ok (.iconst (-1), 1) := by decide +kernel
theorem d_ErrataRow_look_33 : decode c_ErrataRow_look 33 = .ok (.ireturn, 1) := by decide +kernel
theorem d_ErrataRow_look_34 : decode c_ErrataRow_look 34 = .ok (.aload_n 0, 1) := by decide +kernel
theorem d_ErrataRow_look_35 : decode c_ErrataRow_look 35 = .ok (.iload_n 1, 1) := by decide +kernel
theorem d_ErrataRow_look_36 : decode c_ErrataRow_look 36 = .ok (.invokevirtual 343, 3) := by decide +kernel
theorem d_ErrataRow_look_39 : decode c_ErrataRow_look 39 = .ok (.istore_n 3, 1) := by decide +kernel
theorem d_ErrataRow_look_40 : decode c_ErrataRow_look 40 = .ok (.iload_n 3, 1) := by decide +kernel
theorem d_ErrataRow_look_41 : decode c_ErrataRow_look 41 = .ok (.ifCond .eq 16, 3) := by decide +kernel
theorem d_ErrataRow_look_44 : decode c_ErrataRow_look 44 = .ok (.aload_n 0, 1) := by decide +kernel
theorem d_ErrataRow_look_45 : decode c_ErrataRow_look 45 = .ok (.getfield 45, 3) := by decide +kernel
theorem d_ErrataRow_look_48 : decode c_ErrataRow_look 48 = .ok (.getfield 62, 3) := by decide +kernel
theorem d_ErrataRow_look_51 : decode c_ErrataRow_look 51 = .ok (.getfield 123, 3) := by decide +kernel
theorem d_ErrataRow_look_54 : decode c_ErrataRow_look 54 = .ok (.ifCond .ne 6, 3) := by decide +kernel
theorem d_ErrataRow_look_57 : decode c_ErrataRow_look 57 = .ok (.bipush (-2), 2) := by decide +kernel
theorem d_ErrataRow_look_59 : decode c_ErrataRow_look 59 = .ok (.ireturn, 1) := by decide +kernel
theorem d_ErrataRow_look_60 : decode c_ErrataRow_look 60 = .ok (.iconst (-1), 1) := by decide +kernel
theorem d_ErrataRow_look_61 : decode c_ErrataRow_look 61 = .ok (.istore 4, 2) := by decide +kernel
theorem d_ErrataRow_look_63 : decode c_ErrataRow_look 63 = .ok (.bipush 8, 2) := by decide +kernel
theorem d_ErrataRow_look_65 : decode c_ErrataRow_look 65 = .ok (.istore 5, 2) := by decide +kernel
theorem d_ErrataRow_look_67 : decode c_ErrataRow_look 67 = .ok (.iconst 0, 1) := by decide +kernel
theorem d_ErrataRow_look_68 : decode c_ErrataRow_look 68 = .ok (.istore 6, 2) := by decide +kernel
theorem d_ErrataRow_look_70 : decode c_ErrataRow_look 70 = .ok (.iload 6, 2) := by decide +kernel
theorem d_ErrataRow_look_72 : decode c_ErrataRow_look 72 = .ok (.aload_n 0, 1) := by decide +kernel
theorem d_ErrataRow_look_73 : decode c_ErrataRow_look 73 = .ok (.getfield 45, 3) := by decide +kernel
theorem d_ErrataRow_look_76 : decode c_ErrataRow_look 76 = .ok (.getfield 62, 3) := by decide +kernel
theorem d_ErrataRow_look_79 : decode c_ErrataRow_look 79 = .ok (.getfield 123, 3) := by decide +kernel
theorem d_ErrataRow_look_82 : decode c_ErrataRow_look 82 = .ok (.if_icmp .ge 33, 3) := by decide +kernel
theorem d_ErrataRow_look_85 : decode c_ErrataRow_look 85 = .ok (.aload_n 0, 1) := by decide +kernel
theorem d_ErrataRow_look_86 : decode c_ErrataRow_look 86 = .ok (.iload 6, 2) := by decide +kernel
theorem d_ErrataRow_look_88 : decode c_ErrataRow_look 88 = .ok (.iload_n 3, 1) := by decide +kernel
theorem d_ErrataRow_look_89 : decode c_ErrataRow_look 89 = .ok (.invokevirtual 346, 3) := by decide +kernel
theorem d_ErrataRow_look_92 : decode c_ErrataRow_look 92 = .ok (.istore 7, 2) := by decide +kernel
theorem d_ErrataRow_look_94 : decode c_ErrataRow_look 94 = .ok (.iload 7, 2) := by decide +kernel
theorem d_ErrataRow_look_96 : decode c_ErrataRow_look 96 = .ok (.iload 5, 2) := by decide +kernel
theorem d_ErrataRow_look_98 : decode c_ErrataRow_look 98 = .ok (.if_icmp .ge 11, 3) := by decide +kernel
theorem d_ErrataRow_look_101 : decode c_ErrataRow_look 101 = .ok (.iload 7, 2) := by decide +kernel
theorem d_ErrataRow_look_103 : decode c_ErrataRow_look 103 = .ok (.istore 5, 2) := by decide +kernel
theorem d_ErrataRow_look_105 : decode c_ErrataRow_look 105 = .ok (.iload 6, 2) := by decide +kernel
theorem d_ErrataRow_look_107 : decode c_ErrataRow_look 107 = .ok (.istore 4, 2) := by decide +kernel
theorem d_ErrataRow_look_109 : decode c_ErrataRow_look 109 = .ok (.iinc 6 1, 3) := by decide +kernel
theorem d_ErrataRow_look_112 : decode c_ErrataRow_look 112 = .ok (.goto (-42), 3) := by decide +kernel
theorem d_ErrataRow_look_115 : decode c_ErrataRow_look 115 = .ok (.iload_n 2, 1) := by decide +kernel
theorem d_ErrataRow_look_116 : decode c_ErrataRow_look 116 = .ok (.ifCond .ne 8, 3) := by decide +kernel
theorem d_ErrataRow_look_119 : decode c_ErrataRow_look 119 = .ok (.iload 4, 2) := by decide +kernel
theorem d_ErrataRow_look_121 : decode c_ErrataRow_look 121 = .ok (.goto 5, 3) := by decide +kernel
theorem d_ErrataRow_look_124 : decode c_ErrataRow_look 124 = .ok (.iload 5, 2) := by decide +kernel
theorem d_ErrataRow_look_126 : decode c_ErrataRow_look 126 = .ok (.ireturn, 1) := by decide +kernel
abbrev c_ErrataRow_keepPutsOfRuled : ByteArray := prog_1_method_56_code
def y_ErrataRow_keepPutsOfRuled : MethodName := ⟨RX11, "keepPutsOfRuled", "(I)I"⟩
theorem d_ErrataRow_keepPutsOfRuled_0 : decode c_ErrataRow_keepPutsOfRuled 0 = .ok (.iconst 0, 1) := by decide +kernel
theorem d_ErrataRow_keepPutsOfRuled_1 : decode c_ErrataRow_keepPutsOfRuled 1 = .ok (.istore_n 2, 1) := by decide +kernel
theorem d_ErrataRow_keepPutsOfRuled_2 : decode c_ErrataRow_keepPutsOfRuled 2 = .ok (.iconst (-1), 1) := by decide +kernel
theorem d_ErrataRow_keepPutsOfRuled_3 : decode c_ErrataRow_keepPutsOfRuled 3 = .ok (.istore_n 3, 1) := by decide +kernel
theorem d_ErrataRow_keepPutsOfRuled_4 : decode c_ErrataRow_keepPutsOfRuled 4 = .ok (.iload_n 3, 1) := by decide +kernel
theorem d_ErrataRow_keepPutsOfRuled_5 : decode c_ErrataRow_keepPutsOfRuled 5 = .ok (.aload_n 0, 1) := by decide +kernel
theorem d_ErrataRow_keepPutsOfRuled_6 : decode c_ErrataRow_keepPutsOfRuled 6 = .ok (.getfield 128, 3) := by decide +kernel
theorem d_ErrataRow_keepPutsOfRuled_9 : decode c_ErrataRow_keepPutsOfRuled 9 = .ok (.if_icmp .ge 52, 3) := by decide +kernel
theorem d_ErrataRow_keepPutsOfRuled_12 : decode c_ErrataRow_keepPutsOfRuled 12 = .ok (.aload_n 0, 1) := by decide +kernel
theorem d_ErrataRow_keepPutsOfRuled_13 : decode c_ErrataRow_keepPutsOfRuled 13 = .ok (.iload_n 3, 1) := by decide +kernel
theorem d_ErrataRow_keepPutsOfRuled_14 : decode c_ErrataRow_keepPutsOfRuled 14 = .ok (.invokevirtual 340, 3) := by decide +kernel
theorem d_ErrataRow_keepPutsOfRuled_17 : decode c_ErrataRow_keepPutsOfRuled 17 = .ok (.aload_n 0, 1) := by decide +kernel
theorem d_ErrataRow_keepPutsOfRuled_18 : decode c_ErrataRow_keepPutsOfRuled 18 = .ok (.invokevirtual 329, 3) := by decide +kernel
theorem d_ErrataRow_keepPutsOfRuled_21 : decode c_ErrataRow_keepPutsOfRuled 21 = .ok (.ifCond .eq 34, 3) := by decide +kernel
theorem d_ErrataRow_keepPutsOfRuled_24 : decode c_ErrataRow_keepPutsOfRuled 24 = .ok (.aload_n 0, 1) := by decide +kernel
theorem d_ErrataRow_keepPutsOfRuled_25 : decode c_ErrataRow_keepPutsOfRuled 25 = .ok (.iload_n 3, 1) := by decide +kernel
theorem d_ErrataRow_keepPutsOfRuled_26 : decode c_ErrataRow_keepPutsOfRuled 26 = .ok (.invokevirtual 340, 3) := by decide +kernel
theorem d_ErrataRow_keepPutsOfRuled_29 : decode c_ErrataRow_keepPutsOfRuled 29 = .ok (.aload_n 0, 1) := by decide +kernel
theorem d_ErrataRow_keepPutsOfRuled_30 : decode c_ErrataRow_keepPutsOfRuled 30 = .ok (.iload_n 1, 1) := by decide +kernel
theorem d_ErrataRow_keepPutsOfRuled_31 : decode c_ErrataRow_keepPutsOfRuled 31 = .ok (.iconst 1, 1) := by decide +kernel
theorem d_ErrataRow_keepPutsOfRuled_32 : decode c_ErrataRow_keepPutsOfRuled 32 = .ok (.iadd, 1) := by decide +kernel
theorem d_ErrataRow_keepPutsOfRuled_33 : decode c_ErrataRow_keepPutsOfRuled 33 = .ok (.invokevirtual 255, 3) := by decide +kernel
theorem d_ErrataRow_keepPutsOfRuled_36 : decode c_ErrataRow_keepPutsOfRuled 36 = .ok (.aload_n 0, 1) := by decide +kernel
theorem d_ErrataRow_keepPutsOfRuled_37 : decode c_ErrataRow_keepPutsOfRuled 37 = .ok (.getfield 92, 3) := by decide +kernel
theorem d_ErrataRow_keepPutsOfRuled_40 : decode c_ErrataRow_keepPutsOfRuled 40 = .ok (.iload_n 2, 1) := by decide +kernel
theorem d_ErrataRow_keepPutsOfRuled_41 : decode c_ErrataRow_keepPutsOfRuled 41 = .ok (.aload_n 0, 1) := by decide +kernel
theorem d_ErrataRow_keepPutsOfRuled_42 : decode c_ErrataRow_keepPutsOfRuled 42 = .ok (.getfield 85, 3) := by decide +kernel
theorem d_ErrataRow_keepPutsOfRuled_45 : decode c_ErrataRow_keepPutsOfRuled 45 = .ok (.getfield 148, 3) := by decide +kernel
theorem d_ErrataRow_keepPutsOfRuled_48 : decode c_ErrataRow_keepPutsOfRuled 48 = .ok (.invokestatic 280, 3) := by decide +kernel
theorem d_ErrataRow_keepPutsOfRuled_51 : decode c_ErrataRow_keepPutsOfRuled 51 = .ok (.iastore, 1) := by decide +kernel
theorem d_ErrataRow_keepPutsOfRuled_52 : decode c_ErrataRow_keepPutsOfRuled 52 = .ok (.iinc 2 1, 3) := by decide +kernel
theorem d_ErrataRow_keepPutsOfRuled_55 : decode c_ErrataRow_keepPutsOfRuled 55 = .ok (.iinc 3 1, 3) := by decide +kernel
theorem d_ErrataRow_keepPutsOfRuled_58 : decode c_ErrataRow_keepPutsOfRuled 58 = .ok (.goto (-54), 3) := by decide +kernel
theorem d_ErrataRow_keepPutsOfRuled_61 : decode c_ErrataRow_keepPutsOfRuled 61 = .ok (.iload_n 2, 1) := by decide +kernel
theorem d_ErrataRow_keepPutsOfRuled_62 : decode c_ErrataRow_keepPutsOfRuled 62 = .ok (.ireturn, 1) := by decide +kernel
abbrev c_ErrataRow_mostAlike : ByteArray := prog_1_method_57_code
def y_ErrataRow_mostAlike : MethodName := ⟨RX11, "mostAlike", "(II)I"⟩
theorem d_ErrataRow_mostAlike_0 : decode c_ErrataRow_mostAlike 0 = .ok (.iconst 0, 1) := by decide +kernel
theorem d_ErrataRow_mostAlike_1 : decode c_ErrataRow_mostAlike 1 = .ok (.istore_n 3, 1) := by decide +kernel
theorem d_ErrataRow_mostAlike_2 : decode c_ErrataRow_mostAlike 2 = .ok (.iconst 0, 1) := by decide +kernel
theorem d_ErrataRow_mostAlike_3 : decode c_ErrataRow_mostAlike 3 = .ok (.istore 4, 2) := by decide +kernel
theorem d_ErrataRow_mostAlike_5 : decode c_ErrataRow_mostAlike 5 = .ok (.iload 4, 2) := by decide +kernel
theorem d_ErrataRow_mostAlike_7 : decode c_ErrataRow_mostAlike 7 = .ok (.bipush 8, 2) := by decide +kernel
theorem d_ErrataRow_mostAlike_9 : decode c_ErrataRow_mostAlike 9 = .ok (.if_icmp .ge 53, 3) := by decide +kernel
theorem d_ErrataRow_mostAlike_12 : decode c_ErrataRow_mostAlike 12 = .ok (.iconst 0, 1) := by decide +kernel
theorem d_ErrataRow_mostAlike_13 : decode c_ErrataRow_mostAlike 13 = .ok (.istore 5, 2) := by decide +kernel
theorem d_ErrataRow_mostAlike_15 : decode c_ErrataRow_mostAlike 15 = .ok (.iconst 0, 1) := by decide +kernel
theorem d_ErrataRow_mostAlike_16 : decode c_ErrataRow_mostAlike 16 = .ok (.istore 6, 2) := by decide +kernel
theorem d_ErrataRow_mostAlike_18 : decode c_ErrataRow_mostAlike 18 = .ok (.iload 6, 2) := by decide +kernel
theorem d_ErrataRow_mostAlike_20 : decode c_ErrataRow_mostAlike 20 = .ok (.iload_n 2, 1) := by decide +kernel
theorem d_ErrataRow_mostAlike_21 : decode c_ErrataRow_mostAlike 21 = .ok (.if_icmp .ge 28, 3) := by decide +kernel
theorem d_ErrataRow_mostAlike_24 : decode c_ErrataRow_mostAlike 24 = .ok (.aload_n 0, 1) := by decide +kernel
theorem d_ErrataRow_mostAlike_25 : decode c_ErrataRow_mostAlike 25 = .ok (.getfield 92, 3) := by decide +kernel
theorem d_ErrataRow_mostAlike_28 : decode c_ErrataRow_mostAlike 28 = .ok (.iload 6, 2) := by decide +kernel
theorem d_ErrataRow_mostAlike_30 : decode c_ErrataRow_mostAlike 30 = .ok (.iaload, 1) := by decide +kernel
theorem d_ErrataRow_mostAlike_31 : decode c_ErrataRow_mostAlike 31 = .ok (.iload_n 1, 1) := by decide +kernel
theorem d_ErrataRow_mostAlike_32 : decode c_ErrataRow_mostAlike 32 = .ok (.invokestatic 349, 3) := by decide +kernel
theorem d_ErrataRow_mostAlike_35 : decode c_ErrataRow_mostAlike 35 = .ok (.iload 4, 2) := by decide +kernel
theorem d_ErrataRow_mostAlike_37 : decode c_ErrataRow_mostAlike 37 = .ok (.if_icmp .ne 6, 3) := by decide +kernel
theorem d_ErrataRow_mostAlike_40 : decode c_ErrataRow_mostAlike 40 = .ok (.iinc 5 1, 3) := by decide +kernel
theorem d_ErrataRow_mostAlike_43 : decode c_ErrataRow_mostAlike 43 = .ok (.iinc 6 1, 3) := by decide +kernel
theorem d_ErrataRow_mostAlike_46 : decode c_ErrataRow_mostAlike 46 = .ok (.goto (-28), 3) := by decide +kernel
theorem d_ErrataRow_mostAlike_49 : decode c_ErrataRow_mostAlike 49 = .ok (.iload_n 3, 1) := by decide +kernel
theorem d_ErrataRow_mostAlike_50 : decode c_ErrataRow_mostAlike 50 = .ok (.iload 5, 2) := by decide +kernel
theorem d_ErrataRow_mostAlike_52 : decode c_ErrataRow_mostAlike 52 = .ok (.invokestatic 352, 3) := by decide +kernel
theorem d_ErrataRow_mostAlike_55 : decode c_ErrataRow_mostAlike 55 = .ok (.istore_n 3, 1) := by decide +kernel
theorem d_ErrataRow_mostAlike_56 : decode c_ErrataRow_mostAlike 56 = .ok (.iinc 4 1, 3) := by decide +kernel
theorem d_ErrataRow_mostAlike_59 : decode c_ErrataRow_mostAlike 59 = .ok (.goto (-54), 3) := by decide +kernel
theorem d_ErrataRow_mostAlike_62 : decode c_ErrataRow_mostAlike 62 = .ok (.iload_n 3, 1) := by decide +kernel
theorem d_ErrataRow_mostAlike_63 : decode c_ErrataRow_mostAlike 63 = .ok (.ireturn, 1) := by decide +kernel
abbrev c_ErrataRow_unpacked : ByteArray := prog_1_method_58_code
def y_ErrataRow_unpacked : MethodName := ⟨RX11, "unpacked", "(II)I"⟩
theorem d_ErrataRow_unpacked_0 : decode c_ErrataRow_unpacked 0 = .ok (.iload_n 0, 1) := by decide +kernel
theorem d_ErrataRow_unpacked_1 : decode c_ErrataRow_unpacked 1 = .ok (.iconst 3, 1) := by decide +kernel
theorem d_ErrataRow_unpacked_2 : decode c_ErrataRow_unpacked 2 = .ok (.bipush 9, 2) := by decide +kernel
theorem d_ErrataRow_unpacked_4 : decode c_ErrataRow_unpacked 4 = .ok (.iload_n 1, 1) := by decide +kernel
theorem d_ErrataRow_unpacked_5 : decode c_ErrataRow_unpacked 5 = .ok (.isub, 1) := by decide +kernel
theorem d_ErrataRow_unpacked_6 : decode c_ErrataRow_unpacked 6 = .ok (.imul, 1) := by decide +kernel
theorem d_ErrataRow_unpacked_7 : decode c_ErrataRow_unpacked 7 = .ok (.iushr, 1) := by decide +kernel
theorem d_ErrataRow_unpacked_8 : decode c_ErrataRow_unpacked 8 = .ok (.bipush 7, 2) := by decide +kernel
theorem d_ErrataRow_unpacked_10 : decode c_ErrataRow_unpacked 10 = .ok (.iand, 1) := by decide +kernel
theorem d_ErrataRow_unpacked_11 : decode c_ErrataRow_unpacked 11 = .ok (.ireturn, 1) := by decide +kernel
abbrev c_ErrataRow_seed : ByteArray := prog_1_method_59_code
def y_ErrataRow_seed : MethodName := ⟨RX11, "seed", "(I)I"⟩
theorem d_ErrataRow_seed_0 : decode c_ErrataRow_seed 0 = .ok (.iload_n 1, 1) := by decide +kernel
theorem d_ErrataRow_seed_1 : decode c_ErrataRow_seed 1 = .ok (.ifCond .ge 5, 3) := by decide +kernel
theorem d_ErrataRow_seed_4 : decode c_ErrataRow_seed 4 = .ok (.iconst (-1), 1) := by decide +kernel
theorem d_ErrataRow_seed_5 : decode c_ErrataRow_seed 5 = .ok (.ireturn, 1) := by decide +kernel
theorem d_ErrataRow_seed_6 : decode c_ErrataRow_seed 6 = .ok (.aload_n 0, 1) := by decide +kernel
theorem d_ErrataRow_seed_7 : decode c_ErrataRow_seed 7 = .ok (.getfield 45, 3) := by decide +kernel
theorem d_ErrataRow_seed_10 : decode c_ErrataRow_seed 10 = .ok (.getfield 205, 3) := by decide +kernel
theorem d_ErrataRow_seed_13 : decode c_ErrataRow_seed 13 = .ok (.istore_n 2, 1) := by decide +kernel
theorem d_ErrataRow_seed_14 : decode c_ErrataRow_seed 14 = .ok (.aload_n 0, 1) := by decide +kernel
theorem d_ErrataRow_seed_15 : decode c_ErrataRow_seed 15 = .ok (.getfield 45, 3) := by decide +kernel
theorem d_ErrataRow_seed_18 : decode c_ErrataRow_seed 18 = .ok (.iload_n 1, 1) := by decide +kernel
theorem d_ErrataRow_seed_19 : decode c_ErrataRow_seed 19 = .ok (.putfield 205, 3) := by decide +kernel
theorem d_ErrataRow_seed_22 : decode c_ErrataRow_seed 22 = .ok (.iload_n 2, 1) := by decide +kernel
theorem d_ErrataRow_seed_23 : decode c_ErrataRow_seed 23 = .ok (.ireturn, 1) := by decide +kernel
abbrev c_ErrataRow_slips : ByteArray := prog_1_method_60_code
def y_ErrataRow_slips : MethodName := ⟨RX11, "slips", "(IIII)I"⟩
theorem d_ErrataRow_slips_0 : decode c_ErrataRow_slips 0 = .ok (.aload_n 0, 1) := by decide +kernel
theorem d_ErrataRow_slips_1 : decode c_ErrataRow_slips 1 = .ok (.getfield 45, 3) := by decide +kernel
theorem d_ErrataRow_slips_4 : decode c_ErrataRow_slips 4 = .ok (.getfield 62, 3) := by decide +kernel
theorem d_ErrataRow_slips_7 : decode c_ErrataRow_slips 7 = .ok (.getfield 160, 3) := by decide +kernel
theorem d_ErrataRow_slips_10 : decode c_ErrataRow_slips 10 = .ok (.ifCond .eq 23, 3) := by decide +kernel
theorem d_ErrataRow_slips_13 : decode c_ErrataRow_slips 13 = .ok (.iload_n 1, 1) := by decide +kernel
theorem d_ErrataRow_slips_14 : decode c_ErrataRow_slips 14 = .ok (.iconst 1, 1) := by decide +kernel
theorem d_ErrataRow_slips_15 : decode c_ErrataRow_slips 15 = .ok (.bipush 10, 2) := by decide +kernel
theorem d_ErrataRow_slips_17 : decode c_ErrataRow_slips 17 = .ok (.invokestatic 166, 3) := by decide +kernel
theorem d_ErrataRow_slips_20 : decode c_ErrataRow_slips 20 = .ok (.ifCond .eq 13, 3) := by decide +kernel
theorem d_ErrataRow_slips_23 : decode c_ErrataRow_slips 23 = .ok (.iload_n 2, 1) := by decide +kernel
theorem d_ErrataRow_slips_24 : decode c_ErrataRow_slips 24 = .ok (.iconst 1, 1) := by decide +kernel
theorem d_ErrataRow_slips_25 : decode c_ErrataRow_slips 25 = .ok (.bipush 60, 2) := by decide +kernel
theorem d_ErrataRow_slips_27 : decode c_ErrataRow_slips 27 = .ok (.invokestatic 166, 3) := by decide +kernel
theorem d_ErrataRow_slips_30 : decode c_ErrataRow_slips 30 = .ok (.ifCond .ne 5, 3) := by decide +kernel
theorem d_ErrataRow_slips_33 : decode c_ErrataRow_slips 33 = .ok (.iconst (-1), 1) := by decide +kernel
theorem d_ErrataRow_slips_34 : decode c_ErrataRow_slips 34 = .ok (.ireturn, 1) := by decide +kernel
theorem d_ErrataRow_slips_35 : decode c_ErrataRow_slips 35 = .ok (.iload_n 3, 1) := by decide +kernel
theorem d_ErrataRow_slips_36 : decode c_ErrataRow_slips 36 = .ok (.iconst 0, 1) := by decide +kernel
theorem d_ErrataRow_slips_37 : decode c_ErrataRow_slips 37 = .ok (.bipush 100, 2) := by decide +kernel
theorem d_ErrataRow_slips_39 : decode c_ErrataRow_slips 39 = .ok (.invokestatic 166, 3) := by decide +kernel
theorem d_ErrataRow_slips_42 : decode c_ErrataRow_slips 42 = .ok (.ifCond .eq 13, 3) := by decide +kernel
theorem d_ErrataRow_slips_45 : decode c_ErrataRow_slips 45 = .ok (.iload 4, 2) := by decide +kernel
theorem d_ErrataRow_slips_47 : decode c_ErrataRow_slips 47 = .ok (.iconst 0, 1) := by decide +kernel
theorem d_ErrataRow_slips_48 : decode c_ErrataRow_slips 48 = .ok (.iconst 1, 1) := by decide +kernel
theorem d_ErrataRow_slips_49 : decode c_ErrataRow_slips 49 = .ok (.invokestatic 166, 3) := by decide +kernel
theorem d_ErrataRow_slips_52 : decode c_ErrataRow_slips 52 = .ok (.ifCond .ne 5, 3) := by decide +kernel
theorem d_ErrataRow_slips_55 : decode c_ErrataRow_slips 55 = .ok (.iconst (-1), 1) := by decide +kernel
theorem d_ErrataRow_slips_56 : decode c_ErrataRow_slips 56 = .ok (.ireturn, 1) := by decide +kernel
theorem d_ErrataRow_slips_57 : decode c_ErrataRow_slips 57 = .ok (.iconst 0, 1) := by decide +kernel
theorem d_ErrataRow_slips_58 : decode c_ErrataRow_slips 58 = .ok (.istore 5, 2) := by decide +kernel
theorem d_ErrataRow_slips_60 : decode c_ErrataRow_slips 60 = .ok (.iconst 0, 1) := by decide +kernel
theorem d_ErrataRow_slips_61 : decode c_ErrataRow_slips 61 = .ok (.istore 6, 2) := by decide +kernel
theorem d_ErrataRow_slips_63 : decode c_ErrataRow_slips 63 = .ok (.aload_n 0, 1) := by decide +kernel
theorem d_ErrataRow_slips_64 : decode c_ErrataRow_slips 64 = .ok (.getfield 45, 3) := by decide +kernel
theorem d_ErrataRow_slips_67 : decode c_ErrataRow_slips 67 = .ok (.getfield 205, 3) := by decide +kernel
theorem d_ErrataRow_slips_70 : decode c_ErrataRow_slips 70 = .ok (.istore 7, 2) := by decide +kernel
theorem d_ErrataRow_slips_72 : decode c_ErrataRow_slips 72 = .ok (.iconst 0, 1) := by decide +kernel
theorem d_ErrataRow_slips_73 : decode c_ErrataRow_slips 73 = .ok (.istore 8, 2) := by decide +kernel
theorem d_ErrataRow_slips_75 : decode c_ErrataRow_slips 75 = .ok (.iload 8, 2) := by decide +kernel
theorem d_ErrataRow_slips_77 : decode c_ErrataRow_slips 77 = .ok (.iload_n 1, 1) := by decide +kernel
theorem d_ErrataRow_slips_78 : decode c_ErrataRow_slips 78 = .ok (.if_icmp .ge 84, 3) := by decide +kernel
theorem d_ErrataRow_slips_81 : decode c_ErrataRow_slips 81 = .ok (.aload_n 0, 1) := by decide +kernel
theorem d_ErrataRow_slips_82 : decode c_ErrataRow_slips 82 = .ok (.aload_n 0, 1) := by decide +kernel
theorem d_ErrataRow_slips_83 : decode c_ErrataRow_slips 83 = .ok (.getfield 45, 3) := by decide +kernel
theorem d_ErrataRow_slips_86 : decode c_ErrataRow_slips 86 = .ok (.getfield 145, 3) := by decide +kernel
theorem d_ErrataRow_slips_89 : decode c_ErrataRow_slips 89 = .ok (.invokevirtual 252, 3) := by decide +kernel
theorem d_ErrataRow_slips_92 : decode c_ErrataRow_slips 92 = .ok (.iconst 0, 1) := by decide +kernel
theorem d_ErrataRow_slips_93 : decode c_ErrataRow_slips 93 = .ok (.istore 9, 2) := by decide +kernel
theorem d_ErrataRow_slips_95 : decode c_ErrataRow_slips 95 = .ok (.iload 9, 2) := by decide +kernel
theorem d_ErrataRow_slips_97 : decode c_ErrataRow_slips 97 = .ok (.iload_n 2, 1) := by decide +kernel
theorem d_ErrataRow_slips_98 : decode c_ErrataRow_slips 98 = .ok (.if_icmp .ge 30, 3) := by decide +kernel
theorem d_ErrataRow_slips_101 : decode c_ErrataRow_slips 101 = .ok (.aload_n 0, 1) := by decide +kernel
theorem d_ErrataRow_slips_102 : decode c_ErrataRow_slips 102 = .ok (.iload 7, 2) := by decide +kernel
theorem d_ErrataRow_slips_104 : decode c_ErrataRow_slips 104 = .ok (.iload_n 3, 1) := by decide +kernel
theorem d_ErrataRow_slips_105 : decode c_ErrataRow_slips 105 = .ok (.invokevirtual 355, 3) := by decide +kernel
theorem d_ErrataRow_slips_108 : decode c_ErrataRow_slips 108 = .ok (.istore 7, 2) := by decide +kernel
theorem d_ErrataRow_slips_110 : decode c_ErrataRow_slips 110 = .ok (.aload_n 0, 1) := by decide +kernel
theorem d_ErrataRow_slips_111 : decode c_ErrataRow_slips 111 = .ok (.getfield 69, 3) := by decide +kernel
theorem d_ErrataRow_slips_114 : decode c_ErrataRow_slips 114 = .ok (.aload_n 0, 1) := by decide +kernel
theorem d_ErrataRow_slips_115 : decode c_ErrataRow_slips 115 = .ok (.getfield 85, 3) := by decide +kernel
theorem d_ErrataRow_slips_118 : decode c_ErrataRow_slips 118 = .ok (.invokevirtual 215, 3) := by decide +kernel
theorem d_ErrataRow_slips_121 : decode c_ErrataRow_slips 121 = .ok (.pop, 1) := by decide +kernel
theorem d_ErrataRow_slips_122 : decode c_ErrataRow_slips 122 = .ok (.iinc 9 1, 3) := by decide +kernel
theorem d_ErrataRow_slips_125 : decode c_ErrataRow_slips 125 = .ok (.goto (-30), 3) := by decide +kernel
theorem d_ErrataRow_slips_128 : decode c_ErrataRow_slips 128 = .ok (.iload 5, 2) := by decide +kernel
theorem d_ErrataRow_slips_130 : decode c_ErrataRow_slips 130 = .ok (.aload_n 0, 1) := by decide +kernel
theorem d_ErrataRow_slips_131 : decode c_ErrataRow_slips 131 = .ok (.getfield 69, 3) := by decide +kernel
theorem d_ErrataRow_slips_134 : decode c_ErrataRow_slips 134 = .ok (.aload_n 0, 1) := by decide +kernel
theorem d_ErrataRow_slips_135 : decode c_ErrataRow_slips 135 = .ok (.getfield 85, 3) := by decide +kernel
theorem d_ErrataRow_slips_138 : decode c_ErrataRow_slips 138 = .ok (.invokevirtual 225, 3) := by decide +kernel
theorem d_ErrataRow_slips_141 : decode c_ErrataRow_slips 141 = .ok (.iadd, 1) := by decide +kernel
theorem d_ErrataRow_slips_142 : decode c_ErrataRow_slips 142 = .ok (.istore 5, 2) := by decide +kernel
theorem d_ErrataRow_slips_144 : decode c_ErrataRow_slips 144 = .ok (.iload 6, 2) := by decide +kernel
theorem d_ErrataRow_slips_146 : decode c_ErrataRow_slips 146 = .ok (.aload_n 0, 1) := by decide +kernel
theorem d_ErrataRow_slips_147 : decode c_ErrataRow_slips 147 = .ok (.getfield 85, 3) := by decide +kernel
theorem d_ErrataRow_slips_150 : decode c_ErrataRow_slips 150 = .ok (.getfield 192, 3) := by decide +kernel
theorem d_ErrataRow_slips_153 : decode c_ErrataRow_slips 153 = .ok (.iadd, 1) := by decide +kernel
theorem d_ErrataRow_slips_154 : decode c_ErrataRow_slips 154 = .ok (.istore 6, 2) := by decide +kernel
theorem d_ErrataRow_slips_156 : decode c_ErrataRow_slips 156 = .ok (.iinc 8 1, 3) := by decide +kernel
theorem d_ErrataRow_slips_159 : decode c_ErrataRow_slips 159 = .ok (.goto (-84), 3) := by decide +kernel
theorem d_ErrataRow_slips_162 : decode c_ErrataRow_slips 162 = .ok (.iload 4, 2) := by decide +kernel
theorem d_ErrataRow_slips_164 : decode c_ErrataRow_slips 164 = .ok (.ifCond .ne 8, 3) := by decide +kernel
theorem d_ErrataRow_slips_167 : decode c_ErrataRow_slips 167 = .ok (.iload 5, 2) := by decide +kernel
theorem d_ErrataRow_slips_169 : decode c_ErrataRow_slips 169 = .ok (.goto 5, 3) := by decide +kernel
theorem d_ErrataRow_slips_172 : decode c_ErrataRow_slips 172 = .ok (.iload 6, 2) := by decide +kernel
theorem d_ErrataRow_slips_174 : decode c_ErrataRow_slips 174 = .ok (.ireturn, 1) := by decide +kernel
abbrev c_ErrataRow_slip : ByteArray := prog_1_method_61_code
def y_ErrataRow_slip : MethodName := ⟨RX11, "slip", "(II)I"⟩
theorem d_ErrataRow_slip_0 : decode c_ErrataRow_slip 0 = .ok (.iload_n 1, 1) := by decide +kernel
theorem d_ErrataRow_slip_1 : decode c_ErrataRow_slip 1 = .ok (.invokestatic 358, 3) := by decide +kernel
theorem d_ErrataRow_slip_4 : decode c_ErrataRow_slip 4 = .ok (.istore_n 3, 1) := by decide +kernel
theorem d_ErrataRow_slip_5 : decode c_ErrataRow_slip 5 = .ok (.aload_n 0, 1) := by decide +kernel
theorem d_ErrataRow_slip_6 : decode c_ErrataRow_slip 6 = .ok (.getfield 45, 3) := by decide +kernel
theorem d_ErrataRow_slip_9 : decode c_ErrataRow_slip 9 = .ok (.getfield 62, 3) := by decide +kernel
theorem d_ErrataRow_slip_12 : decode c_ErrataRow_slip 12 = .ok (.getfield 123, 3) := by decide +kernel
theorem d_ErrataRow_slip_15 : decode c_ErrataRow_slip 15 = .ok (.istore 4, 2) := by decide +kernel
theorem d_ErrataRow_slip_17 : decode c_ErrataRow_slip 17 = .ok (.iload_n 3, 1) := by decide +kernel
theorem d_ErrataRow_slip_18 : decode c_ErrataRow_slip 18 = .ok (.invokestatic 361, 3) := by decide +kernel
theorem d_ErrataRow_slip_21 : decode c_ErrataRow_slip 21 = .ok (.bipush 100, 2) := by decide +kernel
theorem d_ErrataRow_slip_23 : decode c_ErrataRow_slip 23 = .ok (.irem, 1) := by decide +kernel
theorem d_ErrataRow_slip_24 : decode c_ErrataRow_slip 24 = .ok (.iload_n 2, 1) := by decide +kernel
theorem d_ErrataRow_slip_25 : decode c_ErrataRow_slip 25 = .ok (.if_icmp .ge 8, 3) := by decide +kernel
theorem d_ErrataRow_slip_28 : decode c_ErrataRow_slip 28 = .ok (.iload 4, 2) := by decide +kernel
theorem d_ErrataRow_slip_30 : decode c_ErrataRow_slip 30 = .ok (.ifCond .ne 5, 3) := by decide +kernel
theorem d_ErrataRow_slip_33 : decode c_ErrataRow_slip 33 = .ok (.iload_n 3, 1) := by decide +kernel
theorem d_ErrataRow_slip_34 : decode c_ErrataRow_slip 34 = .ok (.ireturn, 1) := by decide +kernel
theorem d_ErrataRow_slip_35 : decode c_ErrataRow_slip 35 = .ok (.iload_n 3, 1) := by decide +kernel
theorem d_ErrataRow_slip_36 : decode c_ErrataRow_slip 36 = .ok (.invokestatic 358, 3) := by decide +kernel
theorem d_ErrataRow_slip_39 : decode c_ErrataRow_slip 39 = .ok (.istore_n 3, 1) := by decide +kernel
theorem d_ErrataRow_slip_40 : decode c_ErrataRow_slip 40 = .ok (.iload_n 3, 1) := by decide +kernel
theorem d_ErrataRow_slip_41 : decode c_ErrataRow_slip 41 = .ok (.invokestatic 361, 3) := by decide +kernel
theorem d_ErrataRow_slip_44 : decode c_ErrataRow_slip 44 = .ok (.iload 4, 2) := by decide +kernel
theorem d_ErrataRow_slip_46 : decode c_ErrataRow_slip 46 = .ok (.irem, 1) := by decide +kernel
theorem d_ErrataRow_slip_47 : decode c_ErrataRow_slip 47 = .ok (.istore 5, 2) := by decide +kernel
theorem d_ErrataRow_slip_49 : decode c_ErrataRow_slip 49 = .ok (.iload_n 3, 1) := by decide +kernel
theorem d_ErrataRow_slip_50 : decode c_ErrataRow_slip 50 = .ok (.invokestatic 358, 3) := by decide +kernel
theorem d_ErrataRow_slip_53 : decode c_ErrataRow_slip 53 = .ok (.istore_n 3, 1) := by decide +kernel
theorem d_ErrataRow_slip_54 : decode c_ErrataRow_slip 54 = .ok (.aload_n 0, 1) := by decide +kernel
theorem d_ErrataRow_slip_55 : decode c_ErrataRow_slip 55 = .ok (.getfield 85, 3) := by decide +kernel
theorem d_ErrataRow_slip_58 : decode c_ErrataRow_slip 58 = .ok (.getfield 148, 3) := by decide +kernel
theorem d_ErrataRow_slip_61 : decode c_ErrataRow_slip 61 = .ok (.iload 5, 2) := by decide +kernel
theorem d_ErrataRow_slip_63 : decode c_ErrataRow_slip 63 = .ok (.iload_n 3, 1) := by decide +kernel
theorem d_ErrataRow_slip_64 : decode c_ErrataRow_slip 64 = .ok (.invokestatic 361, 3) := by decide +kernel
theorem d_ErrataRow_slip_67 : decode c_ErrataRow_slip 67 = .ok (.bipush 8, 2) := by decide +kernel
theorem d_ErrataRow_slip_69 : decode c_ErrataRow_slip 69 = .ok (.irem, 1) := by decide +kernel
theorem d_ErrataRow_slip_70 : decode c_ErrataRow_slip 70 = .ok (.iastore, 1) := by decide +kernel
theorem d_ErrataRow_slip_71 : decode c_ErrataRow_slip 71 = .ok (.iload_n 3, 1) := by decide +kernel
theorem d_ErrataRow_slip_72 : decode c_ErrataRow_slip 72 = .ok (.ireturn, 1) := by decide +kernel
abbrev c_ErrataRow_nextX : ByteArray := prog_1_method_62_code
def y_ErrataRow_nextX : MethodName := ⟨RX11, "nextX", "(I)I"⟩
theorem d_ErrataRow_nextX_0 : decode c_ErrataRow_nextX 0 = .ok (.iload_n 0, 1) := by decide +kernel
theorem d_ErrataRow_nextX_1 : decode c_ErrataRow_nextX 1 = .ok (.i2l, 1) := by decide +kernel
theorem d_ErrataRow_nextX_2 : decode c_ErrataRow_nextX 2 = .ok (.ldc2_w 364, 3) := by decide +kernel
theorem d_ErrataRow_nextX_5 : decode c_ErrataRow_nextX 5 = .ok (.lmul, 1) := by decide +kernel
theorem d_ErrataRow_nextX_6 : decode c_ErrataRow_nextX 6 = .ok (.ldc2_w 366, 3) := by decide +kernel
theorem d_ErrataRow_nextX_9 : decode c_ErrataRow_nextX 9 = .ok (.ladd, 1) := by decide +kernel
theorem d_ErrataRow_nextX_10 : decode c_ErrataRow_nextX 10 = .ok (.ldc2_w 368, 3) := by decide +kernel
theorem d_ErrataRow_nextX_13 : decode c_ErrataRow_nextX 13 = .ok (.lrem, 1) := by decide +kernel
theorem d_ErrataRow_nextX_14 : decode c_ErrataRow_nextX 14 = .ok (.l2i, 1) := by decide +kernel
theorem d_ErrataRow_nextX_15 : decode c_ErrataRow_nextX 15 = .ok (.ireturn, 1) := by decide +kernel
abbrev c_ErrataRow_drawOf : ByteArray := prog_1_method_63_code
def y_ErrataRow_drawOf : MethodName := ⟨RX11, "drawOf", "(I)I"⟩
theorem d_ErrataRow_drawOf_0 : decode c_ErrataRow_drawOf 0 = .ok (.iload_n 0, 1) := by decide +kernel
theorem d_ErrataRow_drawOf_1 : decode c_ErrataRow_drawOf 1 = .ok (.ldc_w 370, 3) := by decide +kernel
theorem d_ErrataRow_drawOf_4 : decode c_ErrataRow_drawOf 4 = .ok (.idiv, 1) := by decide +kernel
theorem d_ErrataRow_drawOf_5 : decode c_ErrataRow_drawOf 5 = .ok (.ireturn, 1) := by decide +kernel
abbrev c_ErrataRow_image : ByteArray := prog_1_method_64_code
def y_ErrataRow_image : MethodName := ⟨RX11, "image", "(I)I"⟩
theorem d_ErrataRow_image_0 : decode c_ErrataRow_image 0 = .ok (.iload_n 1, 1) := by decide +kernel
theorem d_ErrataRow_image_1 : decode c_ErrataRow_image 1 = .ok (.iconst 0, 1) := by decide +kernel
theorem d_ErrataRow_image_2 : decode c_ErrataRow_image 2 = .ok (.iconst 3, 1) := by decide +kernel
theorem d_ErrataRow_image_3 : decode c_ErrataRow_image 3 = .ok (.invokestatic 166, 3) := by decide +kernel
theorem d_ErrataRow_image_6 : decode c_ErrataRow_image 6 = .ok (.ifCond .ne 5, 3) := by decide +kernel
theorem d_ErrataRow_image_9 : decode c_ErrataRow_image 9 = .ok (.iconst (-1), 1) := by decide +kernel
theorem d_ErrataRow_image_10 : decode c_ErrataRow_image 10 = .ok (.ireturn, 1) := by decide +kernel
theorem d_ErrataRow_image_11 : decode c_ErrataRow_image 11 = .ok (.aload_n 0, 1) := by decide +kernel
theorem d_ErrataRow_image_12 : decode c_ErrataRow_image 12 = .ok (.getfield 49, 3) := by decide +kernel
theorem d_ErrataRow_image_15 : decode c_ErrataRow_image 15 = .ok (.iload_n 1, 1) := by decide +kernel
theorem d_ErrataRow_image_16 : decode c_ErrataRow_image 16 = .ok (.aaload, 1) := by decide +kernel
theorem d_ErrataRow_image_17 : decode c_ErrataRow_image 17 = .ok (.astore_n 2, 1) := by decide +kernel
theorem d_ErrataRow_image_18 : decode c_ErrataRow_image 18 = .ok (.aload_n 2, 1) := by decide +kernel
theorem d_ErrataRow_image_19 : decode c_ErrataRow_image 19 = .ok (.ifnonnull 18, 3) := by decide +kernel
theorem d_ErrataRow_image_22 : decode c_ErrataRow_image 22 = .ok (.new 42, 3) := by decide +kernel
theorem d_ErrataRow_image_25 : decode c_ErrataRow_image 25 = .ok (.dup, 1) := by decide +kernel
theorem d_ErrataRow_image_26 : decode c_ErrataRow_image 26 = .ok (.invokespecial 44, 3) := by decide +kernel
theorem d_ErrataRow_image_29 : decode c_ErrataRow_image 29 = .ok (.astore_n 2, 1) := by decide +kernel
theorem d_ErrataRow_image_30 : decode c_ErrataRow_image 30 = .ok (.aload_n 0, 1) := by decide +kernel
theorem d_ErrataRow_image_31 : decode c_ErrataRow_image 31 = .ok (.getfield 49, 3) := by decide +kernel
theorem d_ErrataRow_image_34 : decode c_ErrataRow_image 34 = .ok (.iload_n 1, 1) := by decide +kernel
theorem d_ErrataRow_image_35 : decode c_ErrataRow_image 35 = .ok (.aload_n 2, 1) := by decide +kernel
theorem d_ErrataRow_image_36 : decode c_ErrataRow_image 36 = .ok (.aastore, 1) := by decide +kernel
theorem d_ErrataRow_image_37 : decode c_ErrataRow_image 37 = .ok (.aload_n 2, 1) := by decide +kernel
theorem d_ErrataRow_image_38 : decode c_ErrataRow_image 38 = .ok (.aload_n 0, 1) := by decide +kernel
theorem d_ErrataRow_image_39 : decode c_ErrataRow_image 39 = .ok (.getfield 45, 3) := by decide +kernel
theorem d_ErrataRow_image_42 : decode c_ErrataRow_image 42 = .ok (.invokevirtual 371, 3) := by decide +kernel
theorem d_ErrataRow_image_45 : decode c_ErrataRow_image 45 = .ok (.aload_n 0, 1) := by decide +kernel
theorem d_ErrataRow_image_46 : decode c_ErrataRow_image 46 = .ok (.getfield 45, 3) := by decide +kernel
theorem d_ErrataRow_image_49 : decode c_ErrataRow_image 49 = .ok (.getfield 145, 3) := by decide +kernel
theorem d_ErrataRow_image_52 : decode c_ErrataRow_image 52 = .ok (.getfield 179, 3) := by decide +kernel
theorem d_ErrataRow_image_55 : decode c_ErrataRow_image 55 = .ok (.ireturn, 1) := by decide +kernel
abbrev c_ErrataRow_back : ByteArray := prog_1_method_65_code
def y_ErrataRow_back : MethodName := ⟨RX11, "back", "(I)I"⟩
theorem d_ErrataRow_back_0 : decode c_ErrataRow_back 0 = .ok (.iload_n 1, 1) := by decide +kernel
theorem d_ErrataRow_back_1 : decode c_ErrataRow_back 1 = .ok (.iconst 0, 1) := by decide +kernel
theorem d_ErrataRow_back_2 : decode c_ErrataRow_back 2 = .ok (.iconst 3, 1) := by decide +kernel
theorem d_ErrataRow_back_3 : decode c_ErrataRow_back 3 = .ok (.invokestatic 166, 3) := by decide +kernel
theorem d_ErrataRow_back_6 : decode c_ErrataRow_back 6 = .ok (.ifCond .ne 5, 3) := by decide +kernel
theorem d_ErrataRow_back_9 : decode c_ErrataRow_back 9 = .ok (.iconst (-1), 1) := by decide +kernel
theorem d_ErrataRow_back_10 : decode c_ErrataRow_back 10 = .ok (.ireturn, 1) := by decide +kernel
theorem d_ErrataRow_back_11 : decode c_ErrataRow_back 11 = .ok (.aload_n 0, 1) := by decide +kernel
theorem d_ErrataRow_back_12 : decode c_ErrataRow_back 12 = .ok (.getfield 49, 3) := by decide +kernel
theorem d_ErrataRow_back_15 : decode c_ErrataRow_back 15 = .ok (.iload_n 1, 1) := by decide +kernel
theorem d_ErrataRow_back_16 : decode c_ErrataRow_back 16 = .ok (.aaload, 1) := by decide +kernel
theorem d_ErrataRow_back_17 : decode c_ErrataRow_back 17 = .ok (.astore_n 2, 1) := by decide +kernel
theorem d_ErrataRow_back_18 : decode c_ErrataRow_back 18 = .ok (.aload_n 2, 1) := by decide +kernel
theorem d_ErrataRow_back_19 : decode c_ErrataRow_back 19 = .ok (.ifnonnull 5, 3) := by decide +kernel
theorem d_ErrataRow_back_22 : decode c_ErrataRow_back 22 = .ok (.iconst (-1), 1) := by decide +kernel
theorem d_ErrataRow_back_23 : decode c_ErrataRow_back 23 = .ok (.ireturn, 1) := by decide +kernel
theorem d_ErrataRow_back_24 : decode c_ErrataRow_back 24 = .ok (.aload_n 0, 1) := by decide +kernel
theorem d_ErrataRow_back_25 : decode c_ErrataRow_back 25 = .ok (.getfield 45, 3) := by decide +kernel
theorem d_ErrataRow_back_28 : decode c_ErrataRow_back 28 = .ok (.aload_n 2, 1) := by decide +kernel
theorem d_ErrataRow_back_29 : decode c_ErrataRow_back 29 = .ok (.invokevirtual 371, 3) := by decide +kernel
theorem d_ErrataRow_back_32 : decode c_ErrataRow_back 32 = .ok (.aload_n 0, 1) := by decide +kernel
theorem d_ErrataRow_back_33 : decode c_ErrataRow_back 33 = .ok (.getfield 56, 3) := by decide +kernel
theorem d_ErrataRow_back_36 : decode c_ErrataRow_back 36 = .ok (.invokevirtual 120, 3) := by decide +kernel
theorem d_ErrataRow_back_39 : decode c_ErrataRow_back 39 = .ok (.aload_n 0, 1) := by decide +kernel
theorem d_ErrataRow_back_40 : decode c_ErrataRow_back 40 = .ok (.getfield 45, 3) := by decide +kernel
theorem d_ErrataRow_back_43 : decode c_ErrataRow_back 43 = .ok (.getfield 145, 3) := by decide +kernel
theorem d_ErrataRow_back_46 : decode c_ErrataRow_back 46 = .ok (.getfield 179, 3) := by decide +kernel
theorem d_ErrataRow_back_49 : decode c_ErrataRow_back 49 = .ok (.ireturn, 1) := by decide +kernel
