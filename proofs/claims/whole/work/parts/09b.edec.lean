abbrev c_Press_gainOf : ByteArray := prog_6_method_15_code
def y_Press_gainOf : MethodName := ⟨RX4, "gainOf", "(I)I"⟩
theorem d_Press_gainOf_0 : decode c_Press_gainOf 0 = .ok (.aload_n 0, 1) := by decide +kernel
theorem d_Press_gainOf_1 : decode c_Press_gainOf 1 = .ok (.getfield 118, 3) := by decide +kernel
theorem d_Press_gainOf_4 : decode c_Press_gainOf 4 = .ok (.iload_n 1, 1) := by decide +kernel
theorem d_Press_gainOf_5 : decode c_Press_gainOf 5 = .ok (.invokestatic 53, 3) := by decide +kernel
theorem d_Press_gainOf_8 : decode c_Press_gainOf 8 = .ok (.ifCond .eq 5, 3) := by decide +kernel
theorem d_Press_gainOf_11 : decode c_Press_gainOf 11 = .ok (.iconst 1, 1) := by decide +kernel
theorem d_Press_gainOf_12 : decode c_Press_gainOf 12 = .ok (.ireturn, 1) := by decide +kernel
theorem d_Press_gainOf_13 : decode c_Press_gainOf 13 = .ok (.aload_n 0, 1) := by decide +kernel
theorem d_Press_gainOf_14 : decode c_Press_gainOf 14 = .ok (.getfield 121, 3) := by decide +kernel
theorem d_Press_gainOf_17 : decode c_Press_gainOf 17 = .ok (.iload_n 1, 1) := by decide +kernel
theorem d_Press_gainOf_18 : decode c_Press_gainOf 18 = .ok (.invokestatic 53, 3) := by decide +kernel
theorem d_Press_gainOf_21 : decode c_Press_gainOf 21 = .ok (.ifCond .eq 7, 3) := by decide +kernel
theorem d_Press_gainOf_24 : decode c_Press_gainOf 24 = .ok (.iconst (-1), 1) := by decide +kernel
theorem d_Press_gainOf_25 : decode c_Press_gainOf 25 = .ok (.goto 4, 3) := by decide +kernel
theorem d_Press_gainOf_28 : decode c_Press_gainOf 28 = .ok (.iconst 0, 1) := by decide +kernel
theorem d_Press_gainOf_29 : decode c_Press_gainOf 29 = .ok (.ireturn, 1) := by decide +kernel
abbrev c_RowSearch_init : ByteArray := prog_7_method_1_code
def y_RowSearch_init : MethodName := ⟨RX5, "<init>", "(LErrataRow$Press;)V"⟩
theorem d_RowSearch_init_0 : decode c_RowSearch_init 0 = .ok (.aload_n 0, 1) := by decide +kernel
theorem d_RowSearch_init_1 : decode c_RowSearch_init 1 = .ok (.invokespecial 3, 3) := by decide +kernel
theorem d_RowSearch_init_4 : decode c_RowSearch_init 4 = .ok (.aload_n 0, 1) := by decide +kernel
theorem d_RowSearch_init_5 : decode c_RowSearch_init 5 = .ok (.iconst 5, 1) := by decide +kernel
theorem d_RowSearch_init_6 : decode c_RowSearch_init 6 = .ok (.anewarray 9, 3) := by decide +kernel
theorem d_RowSearch_init_9 : decode c_RowSearch_init 9 = .ok (.putfield 11, 3) := by decide +kernel
theorem d_RowSearch_init_12 : decode c_RowSearch_init 12 = .ok (.aload_n 0, 1) := by decide +kernel
theorem d_RowSearch_init_13 : decode c_RowSearch_init 13 = .ok (.iconst 4, 1) := by decide +kernel
theorem d_RowSearch_init_14 : decode c_RowSearch_init 14 = .ok (.newarray .int, 2) := by decide +kernel
theorem d_RowSearch_init_16 : decode c_RowSearch_init 16 = .ok (.putfield 17, 3) := by decide +kernel
theorem d_RowSearch_init_19 : decode c_RowSearch_init 19 = .ok (.aload_n 0, 1) := by decide +kernel
theorem d_RowSearch_init_20 : decode c_RowSearch_init 20 = .ok (.iconst 4, 1) := by decide +kernel
theorem d_RowSearch_init_21 : decode c_RowSearch_init 21 = .ok (.newarray .int, 2) := by decide +kernel
theorem d_RowSearch_init_23 : decode c_RowSearch_init 23 = .ok (.putfield 21, 3) := by decide +kernel
theorem d_RowSearch_init_26 : decode c_RowSearch_init 26 = .ok (.aload_n 0, 1) := by decide +kernel
theorem d_RowSearch_init_27 : decode c_RowSearch_init 27 = .ok (.aload_n 1, 1) := by decide +kernel
theorem d_RowSearch_init_28 : decode c_RowSearch_init 28 = .ok (.putfield 24, 3) := by decide +kernel
theorem d_RowSearch_init_31 : decode c_RowSearch_init 31 = .ok (.iconst 0, 1) := by decide +kernel
theorem d_RowSearch_init_32 : decode c_RowSearch_init 32 = .ok (.istore_n 2, 1) := by decide +kernel
theorem d_RowSearch_init_33 : decode c_RowSearch_init 33 = .ok (.iload_n 2, 1) := by decide +kernel
theorem d_RowSearch_init_34 : decode c_RowSearch_init 34 = .ok (.iconst 4, 1) := by decide +kernel
theorem d_RowSearch_init_35 : decode c_RowSearch_init 35 = .ok (.if_icmp .gt 22, 3) := by decide +kernel
theorem d_RowSearch_init_38 : decode c_RowSearch_init 38 = .ok (.aload_n 0, 1) := by decide +kernel
theorem d_RowSearch_init_39 : decode c_RowSearch_init 39 = .ok (.getfield 11, 3) := by decide +kernel
theorem d_RowSearch_init_42 : decode c_RowSearch_init 42 = .ok (.iload_n 2, 1) := by decide +kernel
theorem d_RowSearch_init_43 : decode c_RowSearch_init 43 = .ok (.new 9, 3) := by decide +kernel
theorem d_RowSearch_init_46 : decode c_RowSearch_init 46 = .ok (.dup, 1) := by decide +kernel
theorem d_RowSearch_init_47 : decode c_RowSearch_init 47 = .ok (.invokespecial 28, 3) := by decide +kernel
theorem d_RowSearch_init_50 : decode c_RowSearch_init 50 = .ok (.aastore, 1) := by decide +kernel
theorem d_RowSearch_init_51 : decode c_RowSearch_init 51 = .ok (.iinc 2 1, 3) := by decide +kernel
theorem d_RowSearch_init_54 : decode c_RowSearch_init 54 = .ok (.goto (-21), 3) := by decide +kernel
theorem d_RowSearch_init_57 : decode c_RowSearch_init 57 = .ok (.return_, 1) := by decide +kernel
abbrev c_RowSearch_search : ByteArray := prog_7_method_2_code
def y_RowSearch_search : MethodName := ⟨RX5, "search", "(LErrataRow$State;I)V"⟩
theorem d_RowSearch_search_0 : decode c_RowSearch_search 0 = .ok (.aload_n 0, 1) := by decide +kernel
theorem d_RowSearch_search_1 : decode c_RowSearch_search 1 = .ok (.bipush 11, 2) := by decide +kernel
theorem d_RowSearch_search_3 : decode c_RowSearch_search 3 = .ok (.putfield 29, 3) := by decide +kernel
theorem d_RowSearch_search_6 : decode c_RowSearch_search 6 = .ok (.aload_n 0, 1) := by decide +kernel
theorem d_RowSearch_search_7 : decode c_RowSearch_search 7 = .ok (.getfield 11, 3) := by decide +kernel
theorem d_RowSearch_search_10 : decode c_RowSearch_search 10 = .ok (.iconst 0, 1) := by decide +kernel
theorem d_RowSearch_search_11 : decode c_RowSearch_search 11 = .ok (.aaload, 1) := by decide +kernel
theorem d_RowSearch_search_12 : decode c_RowSearch_search 12 = .ok (.astore_n 3, 1) := by decide +kernel
theorem d_RowSearch_search_13 : decode c_RowSearch_search 13 = .ok (.aload_n 3, 1) := by decide +kernel
theorem d_RowSearch_search_14 : decode c_RowSearch_search 14 = .ok (.ifnull 18, 3) := by decide +kernel
theorem d_RowSearch_search_17 : decode c_RowSearch_search 17 = .ok (.aload_n 3, 1) := by decide +kernel
theorem d_RowSearch_search_18 : decode c_RowSearch_search 18 = .ok (.aload_n 1, 1) := by decide +kernel
theorem d_RowSearch_search_19 : decode c_RowSearch_search 19 = .ok (.invokevirtual 33, 3) := by decide +kernel
theorem d_RowSearch_search_22 : decode c_RowSearch_search 22 = .ok (.aload_n 0, 1) := by decide +kernel
theorem d_RowSearch_search_23 : decode c_RowSearch_search 23 = .ok (.iconst 0, 1) := by decide +kernel
theorem d_RowSearch_search_24 : decode c_RowSearch_search 24 = .ok (.iload_n 2, 1) := by decide +kernel
theorem d_RowSearch_search_25 : decode c_RowSearch_search 25 = .ok (.iconst 4, 1) := by decide +kernel
theorem d_RowSearch_search_26 : decode c_RowSearch_search 26 = .ok (.invokestatic 37, 3) := by decide +kernel
theorem d_RowSearch_search_29 : decode c_RowSearch_search 29 = .ok (.invokestatic 43, 3) := by decide +kernel
theorem d_RowSearch_search_32 : decode c_RowSearch_search 32 = .ok (.return_, 1) := by decide +kernel
abbrev c_RowSearch_tryFrom : ByteArray := prog_7_method_3_code
def y_RowSearch_tryFrom : MethodName := ⟨RX5, "tryFrom", "(LErrataRow$RowSearch;II)V"⟩
theorem d_RowSearch_tryFrom_0 : decode c_RowSearch_tryFrom 0 = .ok (.aload_n 0, 1) := by decide +kernel
theorem d_RowSearch_tryFrom_1 : decode c_RowSearch_tryFrom 1 = .ok (.getfield 11, 3) := by decide +kernel
theorem d_RowSearch_tryFrom_4 : decode c_RowSearch_tryFrom 4 = .ok (.iload_n 1, 1) := by decide +kernel
theorem d_RowSearch_tryFrom_5 : decode c_RowSearch_tryFrom 5 = .ok (.aaload, 1) := by decide +kernel
theorem d_RowSearch_tryFrom_6 : decode c_RowSearch_tryFrom 6 = .ok (.astore_n 3, 1) := by decide +kernel
theorem d_RowSearch_tryFrom_7 : decode c_RowSearch_tryFrom 7 = .ok (.aload_n 3, 1) := by decide +kernel
theorem d_RowSearch_tryFrom_8 : decode c_RowSearch_tryFrom 8 = .ok (.ifnonnull 4, 3) := by decide +kernel
theorem d_RowSearch_tryFrom_11 : decode c_RowSearch_tryFrom 11 = .ok (.return_, 1) := by decide +kernel
theorem d_RowSearch_tryFrom_12 : decode c_RowSearch_tryFrom 12 = .ok (.iload_n 1, 1) := by decide +kernel
theorem d_RowSearch_tryFrom_13 : decode c_RowSearch_tryFrom 13 = .ok (.iload_n 2, 1) := by decide +kernel
theorem d_RowSearch_tryFrom_14 : decode c_RowSearch_tryFrom 14 = .ok (.if_icmp .lt 10, 3) := by decide +kernel
theorem d_RowSearch_tryFrom_17 : decode c_RowSearch_tryFrom 17 = .ok (.aload_n 0, 1) := by decide +kernel
theorem d_RowSearch_tryFrom_18 : decode c_RowSearch_tryFrom 18 = .ok (.aload_n 3, 1) := by decide +kernel
theorem d_RowSearch_tryFrom_19 : decode c_RowSearch_tryFrom 19 = .ok (.iload_n 2, 1) := by decide +kernel
theorem d_RowSearch_tryFrom_20 : decode c_RowSearch_tryFrom 20 = .ok (.invokevirtual 47, 3) := by decide +kernel
theorem d_RowSearch_tryFrom_23 : decode c_RowSearch_tryFrom 23 = .ok (.return_, 1) := by decide +kernel
theorem d_RowSearch_tryFrom_24 : decode c_RowSearch_tryFrom 24 = .ok (.aload_n 0, 1) := by decide +kernel
theorem d_RowSearch_tryFrom_25 : decode c_RowSearch_tryFrom 25 = .ok (.getfield 11, 3) := by decide +kernel
theorem d_RowSearch_tryFrom_28 : decode c_RowSearch_tryFrom 28 = .ok (.iload_n 1, 1) := by decide +kernel
theorem d_RowSearch_tryFrom_29 : decode c_RowSearch_tryFrom 29 = .ok (.iconst 1, 1) := by decide +kernel
theorem d_RowSearch_tryFrom_30 : decode c_RowSearch_tryFrom 30 = .ok (.iadd, 1) := by decide +kernel
theorem d_RowSearch_tryFrom_31 : decode c_RowSearch_tryFrom 31 = .ok (.aaload, 1) := by decide +kernel
theorem d_RowSearch_tryFrom_32 : decode c_RowSearch_tryFrom 32 = .ok (.astore 4, 2) := by decide +kernel
theorem d_RowSearch_tryFrom_34 : decode c_RowSearch_tryFrom 34 = .ok (.aload_n 0, 1) := by decide +kernel
theorem d_RowSearch_tryFrom_35 : decode c_RowSearch_tryFrom 35 = .ok (.getfield 24, 3) := by decide +kernel
theorem d_RowSearch_tryFrom_38 : decode c_RowSearch_tryFrom 38 = .ok (.aload_n 3, 1) := by decide +kernel
theorem d_RowSearch_tryFrom_39 : decode c_RowSearch_tryFrom 39 = .ok (.invokevirtual 51, 3) := by decide +kernel
theorem d_RowSearch_tryFrom_42 : decode c_RowSearch_tryFrom 42 = .ok (.istore 5, 2) := by decide +kernel
theorem d_RowSearch_tryFrom_44 : decode c_RowSearch_tryFrom 44 = .ok (.iconst (-1), 1) := by decide +kernel
theorem d_RowSearch_tryFrom_45 : decode c_RowSearch_tryFrom 45 = .ok (.istore 6, 2) := by decide +kernel
theorem d_RowSearch_tryFrom_47 : decode c_RowSearch_tryFrom 47 = .ok (.aload 4, 2) := by decide +kernel
theorem d_RowSearch_tryFrom_49 : decode c_RowSearch_tryFrom 49 = .ok (.ifnull 65, 3) := by decide +kernel
theorem d_RowSearch_tryFrom_52 : decode c_RowSearch_tryFrom 52 = .ok (.iload 6, 2) := by decide +kernel
theorem d_RowSearch_tryFrom_54 : decode c_RowSearch_tryFrom 54 = .ok (.bipush 10, 2) := by decide +kernel
theorem d_RowSearch_tryFrom_56 : decode c_RowSearch_tryFrom 56 = .ok (.if_icmp .ge 58, 3) := by decide +kernel
theorem d_RowSearch_tryFrom_59 : decode c_RowSearch_tryFrom 59 = .ok (.iload 6, 2) := by decide +kernel
theorem d_RowSearch_tryFrom_61 : decode c_RowSearch_tryFrom 61 = .ok (.iconst (-1), 1) := by decide +kernel
theorem d_RowSearch_tryFrom_62 : decode c_RowSearch_tryFrom 62 = .ok (.if_icmp .eq 13, 3) := by decide +kernel
theorem d_RowSearch_tryFrom_65 : decode c_RowSearch_tryFrom 65 = .ok (.iload 5, 2) := by decide +kernel
theorem d_RowSearch_tryFrom_67 : decode c_RowSearch_tryFrom 67 = .ok (.iload 6, 2) := by decide +kernel
theorem d_RowSearch_tryFrom_69 : decode c_RowSearch_tryFrom 69 = .ok (.invokestatic 57, 3) := by decide +kernel
theorem d_RowSearch_tryFrom_72 : decode c_RowSearch_tryFrom 72 = .ok (.ifCond .eq 36, 3) := by decide +kernel
theorem d_RowSearch_tryFrom_75 : decode c_RowSearch_tryFrom 75 = .ok (.aload_n 0, 1) := by decide +kernel
theorem d_RowSearch_tryFrom_76 : decode c_RowSearch_tryFrom 76 = .ok (.getfield 17, 3) := by decide +kernel
theorem d_RowSearch_tryFrom_79 : decode c_RowSearch_tryFrom 79 = .ok (.iload_n 1, 1) := by decide +kernel
theorem d_RowSearch_tryFrom_80 : decode c_RowSearch_tryFrom 80 = .ok (.iload 6, 2) := by decide +kernel
theorem d_RowSearch_tryFrom_82 : decode c_RowSearch_tryFrom 82 = .ok (.iastore, 1) := by decide +kernel
theorem d_RowSearch_tryFrom_83 : decode c_RowSearch_tryFrom 83 = .ok (.aload 4, 2) := by decide +kernel
theorem d_RowSearch_tryFrom_85 : decode c_RowSearch_tryFrom 85 = .ok (.aload_n 3, 1) := by decide +kernel
theorem d_RowSearch_tryFrom_86 : decode c_RowSearch_tryFrom 86 = .ok (.invokevirtual 33, 3) := by decide +kernel
theorem d_RowSearch_tryFrom_89 : decode c_RowSearch_tryFrom 89 = .ok (.aload_n 0, 1) := by decide +kernel
theorem d_RowSearch_tryFrom_90 : decode c_RowSearch_tryFrom 90 = .ok (.getfield 24, 3) := by decide +kernel
theorem d_RowSearch_tryFrom_93 : decode c_RowSearch_tryFrom 93 = .ok (.aload 4, 2) := by decide +kernel
theorem d_RowSearch_tryFrom_95 : decode c_RowSearch_tryFrom 95 = .ok (.iload 6, 2) := by decide +kernel
theorem d_RowSearch_tryFrom_97 : decode c_RowSearch_tryFrom 97 = .ok (.invokevirtual 61, 3) := by decide +kernel
theorem d_RowSearch_tryFrom_100 : decode c_RowSearch_tryFrom 100 = .ok (.aload_n 0, 1) := by decide +kernel
theorem d_RowSearch_tryFrom_101 : decode c_RowSearch_tryFrom 101 = .ok (.iload_n 1, 1) := by decide +kernel
theorem d_RowSearch_tryFrom_102 : decode c_RowSearch_tryFrom 102 = .ok (.iconst 1, 1) := by decide +kernel
theorem d_RowSearch_tryFrom_103 : decode c_RowSearch_tryFrom 103 = .ok (.iadd, 1) := by decide +kernel
theorem d_RowSearch_tryFrom_104 : decode c_RowSearch_tryFrom 104 = .ok (.iload_n 2, 1) := by decide +kernel
theorem d_RowSearch_tryFrom_105 : decode c_RowSearch_tryFrom 105 = .ok (.invokestatic 43, 3) := by decide +kernel
theorem d_RowSearch_tryFrom_108 : decode c_RowSearch_tryFrom 108 = .ok (.iinc 6 1, 3) := by decide +kernel
theorem d_RowSearch_tryFrom_111 : decode c_RowSearch_tryFrom 111 = .ok (.goto (-64), 3) := by decide +kernel
theorem d_RowSearch_tryFrom_114 : decode c_RowSearch_tryFrom 114 = .ok (.return_, 1) := by decide +kernel
abbrev c_RowSearch_keepIfFewer : ByteArray := prog_7_method_4_code
def y_RowSearch_keepIfFewer : MethodName := ⟨RX5, "keepIfFewer", "(LErrataRow$State;I)V"⟩
theorem d_RowSearch_keepIfFewer_0 : decode c_RowSearch_keepIfFewer 0 = .ok (.aload_n 0, 1) := by decide +kernel
theorem d_RowSearch_keepIfFewer_1 : decode c_RowSearch_keepIfFewer 1 = .ok (.getfield 24, 3) := by decide +kernel
theorem d_RowSearch_keepIfFewer_4 : decode c_RowSearch_keepIfFewer 4 = .ok (.aload_n 1, 1) := by decide +kernel
theorem d_RowSearch_keepIfFewer_5 : decode c_RowSearch_keepIfFewer 5 = .ok (.invokevirtual 64, 3) := by decide +kernel
theorem d_RowSearch_keepIfFewer_8 : decode c_RowSearch_keepIfFewer 8 = .ok (.istore_n 3, 1) := by decide +kernel
theorem d_RowSearch_keepIfFewer_9 : decode c_RowSearch_keepIfFewer 9 = .ok (.iload_n 3, 1) := by decide +kernel
theorem d_RowSearch_keepIfFewer_10 : decode c_RowSearch_keepIfFewer 10 = .ok (.aload_n 0, 1) := by decide +kernel
theorem d_RowSearch_keepIfFewer_11 : decode c_RowSearch_keepIfFewer 11 = .ok (.getfield 29, 3) := by decide +kernel
theorem d_RowSearch_keepIfFewer_14 : decode c_RowSearch_keepIfFewer 14 = .ok (.if_icmp .ge 22, 3) := by decide +kernel
theorem d_RowSearch_keepIfFewer_17 : decode c_RowSearch_keepIfFewer 17 = .ok (.aload_n 0, 1) := by decide +kernel
theorem d_RowSearch_keepIfFewer_18 : decode c_RowSearch_keepIfFewer 18 = .ok (.iload_n 3, 1) := by decide +kernel
theorem d_RowSearch_keepIfFewer_19 : decode c_RowSearch_keepIfFewer 19 = .ok (.putfield 29, 3) := by decide +kernel
theorem d_RowSearch_keepIfFewer_22 : decode c_RowSearch_keepIfFewer 22 = .ok (.aload_n 0, 1) := by decide +kernel
theorem d_RowSearch_keepIfFewer_23 : decode c_RowSearch_keepIfFewer 23 = .ok (.getfield 17, 3) := by decide +kernel
theorem d_RowSearch_keepIfFewer_26 : decode c_RowSearch_keepIfFewer 26 = .ok (.iconst 0, 1) := by decide +kernel
theorem d_RowSearch_keepIfFewer_27 : decode c_RowSearch_keepIfFewer 27 = .ok (.aload_n 0, 1) := by decide +kernel
theorem d_RowSearch_keepIfFewer_28 : decode c_RowSearch_keepIfFewer 28 = .ok (.getfield 21, 3) := by decide +kernel
theorem d_RowSearch_keepIfFewer_31 : decode c_RowSearch_keepIfFewer 31 = .ok (.iconst 0, 1) := by decide +kernel
theorem d_RowSearch_keepIfFewer_32 : decode c_RowSearch_keepIfFewer 32 = .ok (.iload_n 2, 1) := by decide +kernel
theorem d_RowSearch_keepIfFewer_33 : decode c_RowSearch_keepIfFewer 33 = .ok (.invokestatic 67, 3) := by decide +kernel
theorem d_RowSearch_keepIfFewer_36 : decode c_RowSearch_keepIfFewer 36 = .ok (.return_, 1) := by decide +kernel
abbrev c_Rule_init : ByteArray := prog_8_method_1_code
def y_Rule_init : MethodName := ⟨RX6, "<init>", "([I[I[I)V"⟩
theorem d_Rule_init_0 : decode c_Rule_init 0 = .ok (.aload_n 0, 1) := by decide +kernel
theorem d_Rule_init_1 : decode c_Rule_init 1 = .ok (.invokespecial 1, 3) := by decide +kernel
theorem d_Rule_init_4 : decode c_Rule_init 4 = .ok (.aload_n 0, 1) := by decide +kernel
theorem d_Rule_init_5 : decode c_Rule_init 5 = .ok (.aload_n 1, 1) := by decide +kernel
theorem d_Rule_init_6 : decode c_Rule_init 6 = .ok (.putfield 7, 3) := by decide +kernel
theorem d_Rule_init_9 : decode c_Rule_init 9 = .ok (.aload_n 0, 1) := by decide +kernel
theorem d_Rule_init_10 : decode c_Rule_init 10 = .ok (.aload_n 2, 1) := by decide +kernel
theorem d_Rule_init_11 : decode c_Rule_init 11 = .ok (.putfield 13, 3) := by decide +kernel
theorem d_Rule_init_14 : decode c_Rule_init 14 = .ok (.aload_n 0, 1) := by decide +kernel
theorem d_Rule_init_15 : decode c_Rule_init 15 = .ok (.aload_n 3, 1) := by decide +kernel
theorem d_Rule_init_16 : decode c_Rule_init 16 = .ok (.putfield 16, 3) := by decide +kernel
theorem d_Rule_init_19 : decode c_Rule_init 19 = .ok (.aload_n 0, 1) := by decide +kernel
theorem d_Rule_init_20 : decode c_Rule_init 20 = .ok (.aload_n 1, 1) := by decide +kernel
theorem d_Rule_init_21 : decode c_Rule_init 21 = .ok (.arraylength, 1) := by decide +kernel
theorem d_Rule_init_22 : decode c_Rule_init 22 = .ok (.iconst 1, 1) := by decide +kernel
theorem d_Rule_init_23 : decode c_Rule_init 23 = .ok (.iadd, 1) := by decide +kernel
theorem d_Rule_init_24 : decode c_Rule_init 24 = .ok (.newarray .long, 2) := by decide +kernel
theorem d_Rule_init_26 : decode c_Rule_init 26 = .ok (.putfield 19, 3) := by decide +kernel
theorem d_Rule_init_29 : decode c_Rule_init 29 = .ok (.return_, 1) := by decide +kernel
abbrev c_Rule_sumFor : ByteArray := prog_8_method_2_code
def y_Rule_sumFor : MethodName := ⟨RX6, "sumFor", "([J)J"⟩
theorem d_Rule_sumFor_0 : decode c_Rule_sumFor 0 = .ok (.iconst 0, 1) := by decide +kernel
theorem d_Rule_sumFor_1 : decode c_Rule_sumFor 1 = .ok (.istore_n 2, 1) := by decide +kernel
theorem d_Rule_sumFor_2 : decode c_Rule_sumFor 2 = .ok (.iconst 0, 1) := by decide +kernel
theorem d_Rule_sumFor_3 : decode c_Rule_sumFor 3 = .ok (.istore_n 3, 1) := by decide +kernel
theorem d_Rule_sumFor_4 : decode c_Rule_sumFor 4 = .ok (.iload_n 3, 1) := by decide +kernel
theorem d_Rule_sumFor_5 : decode c_Rule_sumFor 5 = .ok (.aload_n 0, 1) := by decide +kernel
theorem d_Rule_sumFor_6 : decode c_Rule_sumFor 6 = .ok (.getfield 16, 3) := by decide +kernel
theorem d_Rule_sumFor_9 : decode c_Rule_sumFor 9 = .ok (.arraylength, 1) := by decide +kernel
theorem d_Rule_sumFor_10 : decode c_Rule_sumFor 10 = .ok (.if_icmp .ge 78, 3) := by decide +kernel
theorem d_Rule_sumFor_13 : decode c_Rule_sumFor 13 = .ok (.aload_n 0, 1) := by decide +kernel
theorem d_Rule_sumFor_14 : decode c_Rule_sumFor 14 = .ok (.getfield 13, 3) := by decide +kernel
theorem d_Rule_sumFor_17 : decode c_Rule_sumFor 17 = .ok (.iload_n 3, 1) := by decide +kernel
theorem d_Rule_sumFor_18 : decode c_Rule_sumFor 18 = .ok (.iaload, 1) := by decide +kernel
theorem d_Rule_sumFor_19 : decode c_Rule_sumFor 19 = .ok (.aload_n 0, 1) := by decide +kernel
theorem d_Rule_sumFor_20 : decode c_Rule_sumFor 20 = .ok (.getfield 16, 3) := by decide +kernel
theorem d_Rule_sumFor_23 : decode c_Rule_sumFor 23 = .ok (.iload_n 3, 1) := by decide +kernel
theorem d_Rule_sumFor_24 : decode c_Rule_sumFor 24 = .ok (.iaload, 1) := by decide +kernel
theorem d_Rule_sumFor_25 : decode c_Rule_sumFor 25 = .ok (.if_icmp .ge 7, 3) := by decide +kernel
theorem d_Rule_sumFor_28 : decode c_Rule_sumFor 28 = .ok (.iconst 1, 1) := by decide +kernel
theorem d_Rule_sumFor_29 : decode c_Rule_sumFor 29 = .ok (.goto 4, 3) := by decide +kernel
theorem d_Rule_sumFor_32 : decode c_Rule_sumFor 32 = .ok (.iconst 0, 1) := by decide +kernel
theorem d_Rule_sumFor_33 : decode c_Rule_sumFor 33 = .ok (.istore 4, 2) := by decide +kernel
theorem d_Rule_sumFor_35 : decode c_Rule_sumFor 35 = .ok (.iload 4, 2) := by decide +kernel
theorem d_Rule_sumFor_37 : decode c_Rule_sumFor 37 = .ok (.ifCond .eq 25, 3) := by decide +kernel
theorem d_Rule_sumFor_40 : decode c_Rule_sumFor 40 = .ok (.aload_n 0, 1) := by decide +kernel
theorem d_Rule_sumFor_41 : decode c_Rule_sumFor 41 = .ok (.aload_n 0, 1) := by decide +kernel
theorem d_Rule_sumFor_42 : decode c_Rule_sumFor 42 = .ok (.getfield 13, 3) := by decide +kernel
theorem d_Rule_sumFor_45 : decode c_Rule_sumFor 45 = .ok (.iload_n 3, 1) := by decide +kernel
theorem d_Rule_sumFor_46 : decode c_Rule_sumFor 46 = .ok (.iaload, 1) := by decide +kernel
theorem d_Rule_sumFor_47 : decode c_Rule_sumFor 47 = .ok (.aload_n 0, 1) := by decide +kernel
theorem d_Rule_sumFor_48 : decode c_Rule_sumFor 48 = .ok (.getfield 16, 3) := by decide +kernel
theorem d_Rule_sumFor_51 : decode c_Rule_sumFor 51 = .ok (.iload_n 3, 1) := by decide +kernel
theorem d_Rule_sumFor_52 : decode c_Rule_sumFor 52 = .ok (.iaload, 1) := by decide +kernel
theorem d_Rule_sumFor_53 : decode c_Rule_sumFor 53 = .ok (.aload_n 1, 1) := by decide +kernel
theorem d_Rule_sumFor_54 : decode c_Rule_sumFor 54 = .ok (.invokevirtual 23, 3) := by decide +kernel
theorem d_Rule_sumFor_57 : decode c_Rule_sumFor 57 = .ok (.lconst 0, 1) := by decide +kernel
theorem d_Rule_sumFor_58 : decode c_Rule_sumFor 58 = .ok (.lcmp, 1) := by decide +kernel
theorem d_Rule_sumFor_59 : decode c_Rule_sumFor 59 = .ok (.ifCond .eq 16, 3) := by decide +kernel
theorem d_Rule_sumFor_62 : decode c_Rule_sumFor 62 = .ok (.aload_n 0, 1) := by decide +kernel
theorem d_Rule_sumFor_63 : decode c_Rule_sumFor 63 = .ok (.iload_n 2, 1) := by decide +kernel
theorem d_Rule_sumFor_64 : decode c_Rule_sumFor 64 = .ok (.aload_n 0, 1) := by decide +kernel
theorem d_Rule_sumFor_65 : decode c_Rule_sumFor 65 = .ok (.getfield 13, 3) := by decide +kernel
theorem d_Rule_sumFor_68 : decode c_Rule_sumFor 68 = .ok (.iload_n 3, 1) := by decide +kernel
theorem d_Rule_sumFor_69 : decode c_Rule_sumFor 69 = .ok (.iaload, 1) := by decide +kernel
theorem d_Rule_sumFor_70 : decode c_Rule_sumFor 70 = .ok (.aload_n 1, 1) := by decide +kernel
theorem d_Rule_sumFor_71 : decode c_Rule_sumFor 71 = .ok (.invokevirtual 23, 3) := by decide +kernel
theorem d_Rule_sumFor_74 : decode c_Rule_sumFor 74 = .ok (.lreturn, 1) := by decide +kernel
theorem d_Rule_sumFor_75 : decode c_Rule_sumFor 75 = .ok (.aload_n 0, 1) := by decide +kernel
theorem d_Rule_sumFor_76 : decode c_Rule_sumFor 76 = .ok (.getfield 16, 3) := by decide +kernel
theorem d_Rule_sumFor_79 : decode c_Rule_sumFor 79 = .ok (.iload_n 3, 1) := by decide +kernel
theorem d_Rule_sumFor_80 : decode c_Rule_sumFor 80 = .ok (.iaload, 1) := by decide +kernel
theorem d_Rule_sumFor_81 : decode c_Rule_sumFor 81 = .ok (.istore_n 2, 1) := by decide +kernel
theorem d_Rule_sumFor_82 : decode c_Rule_sumFor 82 = .ok (.iinc 3 1, 3) := by decide +kernel
theorem d_Rule_sumFor_85 : decode c_Rule_sumFor 85 = .ok (.goto (-81), 3) := by decide +kernel
theorem d_Rule_sumFor_88 : decode c_Rule_sumFor 88 = .ok (.lconst 0, 1) := by decide +kernel
theorem d_Rule_sumFor_89 : decode c_Rule_sumFor 89 = .ok (.lreturn, 1) := by decide +kernel
abbrev c_Rule_valueOf : ByteArray := prog_8_method_3_code
def y_Rule_valueOf : MethodName := ⟨RX6, "valueOf", "(II[J)J"⟩
theorem d_Rule_valueOf_0 : decode c_Rule_valueOf 0 = .ok (.iconst 0, 1) := by decide +kernel
theorem d_Rule_valueOf_1 : decode c_Rule_valueOf 1 = .ok (.istore 4, 2) := by decide +kernel
theorem d_Rule_valueOf_3 : decode c_Rule_valueOf 3 = .ok (.iload_n 1, 1) := by decide +kernel
theorem d_Rule_valueOf_4 : decode c_Rule_valueOf 4 = .ok (.istore 5, 2) := by decide +kernel
theorem d_Rule_valueOf_6 : decode c_Rule_valueOf 6 = .ok (.iload 5, 2) := by decide +kernel
theorem d_Rule_valueOf_8 : decode c_Rule_valueOf 8 = .ok (.iload_n 2, 1) := by decide +kernel
theorem d_Rule_valueOf_9 : decode c_Rule_valueOf 9 = .ok (.if_icmp .ge 148, 3) := by decide +kernel
theorem d_Rule_valueOf_12 : decode c_Rule_valueOf 12 = .ok (.aload_n 0, 1) := by decide +kernel
theorem d_Rule_valueOf_13 : decode c_Rule_valueOf 13 = .ok (.getfield 7, 3) := by decide +kernel
theorem d_Rule_valueOf_16 : decode c_Rule_valueOf 16 = .ok (.iload 5, 2) := by decide +kernel
theorem d_Rule_valueOf_18 : decode c_Rule_valueOf 18 = .ok (.iaload, 1) := by decide +kernel
theorem d_Rule_valueOf_19 : decode c_Rule_valueOf 19 = .ok (.istore 6, 2) := by decide +kernel
theorem d_Rule_valueOf_21 : decode c_Rule_valueOf 21 = .ok (.iload 6, 2) := by decide +kernel
theorem d_Rule_valueOf_23 : decode c_Rule_valueOf 23 = .ok (.bipush (-20), 2) := by decide +kernel
theorem d_Rule_valueOf_25 : decode c_Rule_valueOf 25 = .ok (.if_icmp .le 43, 3) := by decide +kernel
theorem d_Rule_valueOf_28 : decode c_Rule_valueOf 28 = .ok (.iload 4, 2) := by decide +kernel
theorem d_Rule_valueOf_30 : decode c_Rule_valueOf 30 = .ok (.aload_n 0, 1) := by decide +kernel
theorem d_Rule_valueOf_31 : decode c_Rule_valueOf 31 = .ok (.getfield 19, 3) := by decide +kernel
theorem d_Rule_valueOf_34 : decode c_Rule_valueOf 34 = .ok (.arraylength, 1) := by decide +kernel
theorem d_Rule_valueOf_35 : decode c_Rule_valueOf 35 = .ok (.if_icmp .ge 116, 3) := by decide +kernel
theorem d_Rule_valueOf_38 : decode c_Rule_valueOf 38 = .ok (.aload_n 0, 1) := by decide +kernel
theorem d_Rule_valueOf_39 : decode c_Rule_valueOf 39 = .ok (.getfield 19, 3) := by decide +kernel
theorem d_Rule_valueOf_42 : decode c_Rule_valueOf 42 = .ok (.iload 4, 2) := by decide +kernel
theorem d_Rule_valueOf_44 : decode c_Rule_valueOf 44 = .ok (.iload 6, 2) := by decide +kernel
theorem d_Rule_valueOf_46 : decode c_Rule_valueOf 46 = .ok (.ifCond .lt 9, 3) := by decide +kernel
theorem d_Rule_valueOf_49 : decode c_Rule_valueOf 49 = .ok (.iload 6, 2) := by decide +kernel
theorem d_Rule_valueOf_51 : decode c_Rule_valueOf 51 = .ok (.i2l, 1) := by decide +kernel
theorem d_Rule_valueOf_52 : decode c_Rule_valueOf 52 = .ok (.goto 9, 3) := by decide +kernel
theorem d_Rule_valueOf_55 : decode c_Rule_valueOf 55 = .ok (.aload_n 3, 1) := by decide +kernel
theorem d_Rule_valueOf_56 : decode c_Rule_valueOf 56 = .ok (.iconst (-1), 1) := by decide +kernel
theorem d_Rule_valueOf_57 : decode c_Rule_valueOf 57 = .ok (.iload 6, 2) := by decide +kernel
theorem d_Rule_valueOf_59 : decode c_Rule_valueOf 59 = .ok (.isub, 1) := by decide +kernel
theorem d_Rule_valueOf_60 : decode c_Rule_valueOf 60 = .ok (.laload, 1) := by decide +kernel
theorem d_Rule_valueOf_61 : decode c_Rule_valueOf 61 = .ok (.lastore, 1) := by decide +kernel
theorem d_Rule_valueOf_62 : decode c_Rule_valueOf 62 = .ok (.iinc 4 1, 3) := by decide +kernel
theorem d_Rule_valueOf_65 : decode c_Rule_valueOf 65 = .ok (.goto 86, 3) := by decide +kernel
theorem d_Rule_valueOf_68 : decode c_Rule_valueOf 68 = .ok (.iload 6, 2) := by decide +kernel
theorem d_Rule_valueOf_70 : decode c_Rule_valueOf 70 = .ok (.bipush (-20), 2) := by decide +kernel
theorem d_Rule_valueOf_72 : decode c_Rule_valueOf 72 = .ok (.if_icmp .ne 40, 3) := by decide +kernel
theorem d_Rule_valueOf_75 : decode c_Rule_valueOf 75 = .ok (.iload 4, 2) := by decide +kernel
theorem d_Rule_valueOf_77 : decode c_Rule_valueOf 77 = .ok (.iconst 1, 1) := by decide +kernel
theorem d_Rule_valueOf_78 : decode c_Rule_valueOf 78 = .ok (.if_icmp .lt 73, 3) := by decide +kernel
theorem d_Rule_valueOf_81 : decode c_Rule_valueOf 81 = .ok (.aload_n 0, 1) := by decide +kernel
theorem d_Rule_valueOf_82 : decode c_Rule_valueOf 82 = .ok (.getfield 19, 3) := by decide +kernel
theorem d_Rule_valueOf_85 : decode c_Rule_valueOf 85 = .ok (.iload 4, 2) := by decide +kernel
theorem d_Rule_valueOf_87 : decode c_Rule_valueOf 87 = .ok (.iconst 1, 1) := by decide +kernel
theorem d_Rule_valueOf_88 : decode c_Rule_valueOf 88 = .ok (.isub, 1) := by decide +kernel
theorem d_Rule_valueOf_89 : decode c_Rule_valueOf 89 = .ok (.aload_n 0, 1) := by decide +kernel
theorem d_Rule_valueOf_90 : decode c_Rule_valueOf 90 = .ok (.getfield 19, 3) := by decide +kernel
theorem d_Rule_valueOf_93 : decode c_Rule_valueOf 93 = .ok (.iload 4, 2) := by decide +kernel
theorem d_Rule_valueOf_95 : decode c_Rule_valueOf 95 = .ok (.iconst 1, 1) := by decide +kernel
theorem d_Rule_valueOf_96 : decode c_Rule_valueOf 96 = .ok (.isub, 1) := by decide +kernel
theorem d_Rule_valueOf_97 : decode c_Rule_valueOf 97 = .ok (.laload, 1) := by decide +kernel
theorem d_Rule_valueOf_98 : decode c_Rule_valueOf 98 = .ok (.lconst 0, 1) := by decide +kernel
theorem d_Rule_valueOf_99 : decode c_Rule_valueOf 99 = .ok (.lcmp, 1) := by decide +kernel
theorem d_Rule_valueOf_100 : decode c_Rule_valueOf 100 = .ok (.ifCond .ne 7, 3) := by decide +kernel
theorem d_Rule_valueOf_103 : decode c_Rule_valueOf 103 = .ok (.lconst 1, 1) := by decide +kernel
theorem d_Rule_valueOf_104 : decode c_Rule_valueOf 104 = .ok (.goto 4, 3) := by decide +kernel
theorem d_Rule_valueOf_107 : decode c_Rule_valueOf 107 = .ok (.lconst 0, 1) := by decide +kernel
theorem d_Rule_valueOf_108 : decode c_Rule_valueOf 108 = .ok (.lastore, 1) := by decide +kernel
theorem d_Rule_valueOf_109 : decode c_Rule_valueOf 109 = .ok (.goto 42, 3) := by decide +kernel
theorem d_Rule_valueOf_112 : decode c_Rule_valueOf 112 = .ok (.iload 4, 2) := by decide +kernel
theorem d_Rule_valueOf_114 : decode c_Rule_valueOf 114 = .ok (.iconst 2, 1) := by decide +kernel
theorem d_Rule_valueOf_115 : decode c_Rule_valueOf 115 = .ok (.if_icmp .lt 36, 3) := by decide +kernel
theorem d_Rule_valueOf_118 : decode c_Rule_valueOf 118 = .ok (.iinc 4 (-1), 3) := by decide +kernel
theorem d_Rule_valueOf_121 : decode c_Rule_valueOf 121 = .ok (.aload_n 0, 1) := by decide +kernel
theorem d_Rule_valueOf_122 : decode c_Rule_valueOf 122 = .ok (.getfield 19, 3) := by decide +kernel
theorem d_Rule_valueOf_125 : decode c_Rule_valueOf 125 = .ok (.iload 4, 2) := by decide +kernel
theorem d_Rule_valueOf_127 : decode c_Rule_valueOf 127 = .ok (.iconst 1, 1) := by decide +kernel
theorem d_Rule_valueOf_128 : decode c_Rule_valueOf 128 = .ok (.isub, 1) := by decide +kernel
theorem d_Rule_valueOf_129 : decode c_Rule_valueOf 129 = .ok (.iload 6, 2) := by decide +kernel
theorem d_Rule_valueOf_131 : decode c_Rule_valueOf 131 = .ok (.aload_n 0, 1) := by decide +kernel
theorem d_Rule_valueOf_132 : decode c_Rule_valueOf 132 = .ok (.getfield 19, 3) := by decide +kernel
theorem d_Rule_valueOf_135 : decode c_Rule_valueOf 135 = .ok (.iload 4, 2) := by decide +kernel
theorem d_Rule_valueOf_137 : decode c_Rule_valueOf 137 = .ok (.iconst 1, 1) := by decide +kernel
theorem d_Rule_valueOf_138 : decode c_Rule_valueOf 138 = .ok (.isub, 1) := by decide +kernel
theorem d_Rule_valueOf_139 : decode c_Rule_valueOf 139 = .ok (.laload, 1) := by decide +kernel
theorem d_Rule_valueOf_140 : decode c_Rule_valueOf 140 = .ok (.aload_n 0, 1) := by decide +kernel
theorem d_Rule_valueOf_141 : decode c_Rule_valueOf 141 = .ok (.getfield 19, 3) := by decide +kernel
theorem d_Rule_valueOf_144 : decode c_Rule_valueOf 144 = .ok (.iload 4, 2) := by decide +kernel
theorem d_Rule_valueOf_146 : decode c_Rule_valueOf 146 = .ok (.laload, 1) := by decide +kernel
theorem d_Rule_valueOf_147 : decode c_Rule_valueOf 147 = .ok (.invokestatic 27, 3) := by decide +kernel
theorem d_Rule_valueOf_150 : decode c_Rule_valueOf 150 = .ok (.lastore, 1) := by decide +kernel
theorem d_Rule_valueOf_151 : decode c_Rule_valueOf 151 = .ok (.iinc 5 1, 3) := by decide +kernel
theorem d_Rule_valueOf_154 : decode c_Rule_valueOf 154 = .ok (.goto (-148), 3) := by decide +kernel
theorem d_Rule_valueOf_157 : decode c_Rule_valueOf 157 = .ok (.iload 4, 2) := by decide +kernel
theorem d_Rule_valueOf_159 : decode c_Rule_valueOf 159 = .ok (.iconst 1, 1) := by decide +kernel
theorem d_Rule_valueOf_160 : decode c_Rule_valueOf 160 = .ok (.if_icmp .lt 15, 3) := by decide +kernel
theorem d_Rule_valueOf_163 : decode c_Rule_valueOf 163 = .ok (.aload_n 0, 1) := by decide +kernel
theorem d_Rule_valueOf_164 : decode c_Rule_valueOf 164 = .ok (.getfield 19, 3) := by decide +kernel
theorem d_Rule_valueOf_167 : decode c_Rule_valueOf 167 = .ok (.iload 4, 2) := by decide +kernel
theorem d_Rule_valueOf_169 : decode c_Rule_valueOf 169 = .ok (.iconst 1, 1) := by decide +kernel
theorem d_Rule_valueOf_170 : decode c_Rule_valueOf 170 = .ok (.isub, 1) := by decide +kernel
theorem d_Rule_valueOf_171 : decode c_Rule_valueOf 171 = .ok (.laload, 1) := by decide +kernel
theorem d_Rule_valueOf_172 : decode c_Rule_valueOf 172 = .ok (.goto 4, 3) := by decide +kernel
theorem d_Rule_valueOf_175 : decode c_Rule_valueOf 175 = .ok (.lconst 0, 1) := by decide +kernel
theorem d_Rule_valueOf_176 : decode c_Rule_valueOf 176 = .ok (.lreturn, 1) := by decide +kernel
abbrev c_Rule_joined : ByteArray := prog_8_method_4_code
def y_Rule_joined : MethodName := ⟨RX6, "joined", "(IJJ)J"⟩
theorem d_Rule_joined_0 : decode c_Rule_joined 0 = .ok (.iload_n 0, 1) := by decide +kernel
theorem d_Rule_joined_1 : decode c_Rule_joined 1 = .ok (.tableswitch 183 (-31) (-21) #[171, 159, 147, 135, 85, 71, 67, 63, 59, 117, 99], 59) := by decide +kernel
theorem d_Rule_joined_60 : decode c_Rule_joined 60 = .ok (.lload_n 1, 1) := by decide +kernel
theorem d_Rule_joined_61 : decode c_Rule_joined 61 = .ok (.lload_n 3, 1) := by decide +kernel
theorem d_Rule_joined_62 : decode c_Rule_joined 62 = .ok (.ladd, 1) := by decide +kernel
theorem d_Rule_joined_63 : decode c_Rule_joined 63 = .ok (.lreturn, 1) := by decide +kernel
theorem d_Rule_joined_64 : decode c_Rule_joined 64 = .ok (.lload_n 1, 1) := by decide +kernel
theorem d_Rule_joined_65 : decode c_Rule_joined 65 = .ok (.lload_n 3, 1) := by decide +kernel
theorem d_Rule_joined_66 : decode c_Rule_joined 66 = .ok (.lsub, 1) := by decide +kernel
theorem d_Rule_joined_67 : decode c_Rule_joined 67 = .ok (.lreturn, 1) := by decide +kernel
theorem d_Rule_joined_68 : decode c_Rule_joined 68 = .ok (.lload_n 1, 1) := by decide +kernel
theorem d_Rule_joined_69 : decode c_Rule_joined 69 = .ok (.lload_n 3, 1) := by decide +kernel
theorem d_Rule_joined_70 : decode c_Rule_joined 70 = .ok (.lmul, 1) := by decide +kernel
theorem d_Rule_joined_71 : decode c_Rule_joined 71 = .ok (.lreturn, 1) := by decide +kernel
theorem d_Rule_joined_72 : decode c_Rule_joined 72 = .ok (.lload_n 3, 1) := by decide +kernel
theorem d_Rule_joined_73 : decode c_Rule_joined 73 = .ok (.lconst 0, 1) := by decide +kernel
theorem d_Rule_joined_74 : decode c_Rule_joined 74 = .ok (.lcmp, 1) := by decide +kernel
theorem d_Rule_joined_75 : decode c_Rule_joined 75 = .ok (.ifCond .ne 7, 3) := by decide +kernel
theorem d_Rule_joined_78 : decode c_Rule_joined 78 = .ok (.lconst 0, 1) := by decide +kernel
theorem d_Rule_joined_79 : decode c_Rule_joined 79 = .ok (.goto 6, 3) := by decide +kernel
theorem d_Rule_joined_82 : decode c_Rule_joined 82 = .ok (.lload_n 1, 1) := by decide +kernel
theorem d_Rule_joined_83 : decode c_Rule_joined 83 = .ok (.lload_n 3, 1) := by decide +kernel
theorem d_Rule_joined_84 : decode c_Rule_joined 84 = .ok (.ldiv, 1) := by decide +kernel
theorem d_Rule_joined_85 : decode c_Rule_joined 85 = .ok (.lreturn, 1) := by decide +kernel
theorem d_Rule_joined_86 : decode c_Rule_joined 86 = .ok (.lload_n 3, 1) := by decide +kernel
theorem d_Rule_joined_87 : decode c_Rule_joined 87 = .ok (.lconst 0, 1) := by decide +kernel
theorem d_Rule_joined_88 : decode c_Rule_joined 88 = .ok (.lcmp, 1) := by decide +kernel
theorem d_Rule_joined_89 : decode c_Rule_joined 89 = .ok (.ifCond .ne 7, 3) := by decide +kernel
theorem d_Rule_joined_92 : decode c_Rule_joined 92 = .ok (.lconst 0, 1) := by decide +kernel
theorem d_Rule_joined_93 : decode c_Rule_joined 93 = .ok (.goto 6, 3) := by decide +kernel
theorem d_Rule_joined_96 : decode c_Rule_joined 96 = .ok (.lload_n 1, 1) := by decide +kernel
theorem d_Rule_joined_97 : decode c_Rule_joined 97 = .ok (.lload_n 3, 1) := by decide +kernel
theorem d_Rule_joined_98 : decode c_Rule_joined 98 = .ok (.lrem, 1) := by decide +kernel
theorem d_Rule_joined_99 : decode c_Rule_joined 99 = .ok (.lreturn, 1) := by decide +kernel
theorem d_Rule_joined_100 : decode c_Rule_joined 100 = .ok (.lload_n 1, 1) := by decide +kernel
theorem d_Rule_joined_101 : decode c_Rule_joined 101 = .ok (.lconst 0, 1) := by decide +kernel
theorem d_Rule_joined_102 : decode c_Rule_joined 102 = .ok (.lcmp, 1) := by decide +kernel
theorem d_Rule_joined_103 : decode c_Rule_joined 103 = .ok (.ifCond .eq 13, 3) := by decide +kernel
theorem d_Rule_joined_106 : decode c_Rule_joined 106 = .ok (.lload_n 3, 1) := by decide +kernel
theorem d_Rule_joined_107 : decode c_Rule_joined 107 = .ok (.lconst 0, 1) := by decide +kernel
theorem d_Rule_joined_108 : decode c_Rule_joined 108 = .ok (.lcmp, 1) := by decide +kernel
theorem d_Rule_joined_109 : decode c_Rule_joined 109 = .ok (.ifCond .eq 7, 3) := by decide +kernel
theorem d_Rule_joined_112 : decode c_Rule_joined 112 = .ok (.lconst 1, 1) := by decide +kernel
theorem d_Rule_joined_113 : decode c_Rule_joined 113 = .ok (.goto 4, 3) := by decide +kernel
theorem d_Rule_joined_116 : decode c_Rule_joined 116 = .ok (.lconst 0, 1) := by decide +kernel
theorem d_Rule_joined_117 : decode c_Rule_joined 117 = .ok (.lreturn, 1) := by decide +kernel
theorem d_Rule_joined_118 : decode c_Rule_joined 118 = .ok (.lload_n 1, 1) := by decide +kernel
theorem d_Rule_joined_119 : decode c_Rule_joined 119 = .ok (.lconst 0, 1) := by decide +kernel
theorem d_Rule_joined_120 : decode c_Rule_joined 120 = .ok (.lcmp, 1) := by decide +kernel
theorem d_Rule_joined_121 : decode c_Rule_joined 121 = .ok (.ifCond .ne 9, 3) := by decide +kernel
theorem d_Rule_joined_124 : decode c_Rule_joined 124 = .ok (.lload_n 3, 1) := by decide +kernel
theorem d_Rule_joined_125 : decode c_Rule_joined 125 = .ok (.lconst 0, 1) := by decide +kernel
theorem d_Rule_joined_126 : decode c_Rule_joined 126 = .ok (.lcmp, 1) := by decide +kernel
theorem d_Rule_joined_127 : decode c_Rule_joined 127 = .ok (.ifCond .eq 7, 3) := by decide +kernel
theorem d_Rule_joined_130 : decode c_Rule_joined 130 = .ok (.lconst 1, 1) := by decide +kernel
theorem d_Rule_joined_131 : decode c_Rule_joined 131 = .ok (.goto 4, 3) := by decide +kernel
theorem d_Rule_joined_134 : decode c_Rule_joined 134 = .ok (.lconst 0, 1) := by decide +kernel
theorem d_Rule_joined_135 : decode c_Rule_joined 135 = .ok (.lreturn, 1) := by decide +kernel
theorem d_Rule_joined_136 : decode c_Rule_joined 136 = .ok (.lload_n 1, 1) := by decide +kernel
theorem d_Rule_joined_137 : decode c_Rule_joined 137 = .ok (.lload_n 3, 1) := by decide +kernel
theorem d_Rule_joined_138 : decode c_Rule_joined 138 = .ok (.lcmp, 1) := by decide +kernel
theorem d_Rule_joined_139 : decode c_Rule_joined 139 = .ok (.ifCond .ge 7, 3) := by decide +kernel
theorem d_Rule_joined_142 : decode c_Rule_joined 142 = .ok (.lconst 1, 1) := by decide +kernel
theorem d_Rule_joined_143 : decode c_Rule_joined 143 = .ok (.goto 4, 3) := by decide +kernel
theorem d_Rule_joined_146 : decode c_Rule_joined 146 = .ok (.lconst 0, 1) := by decide +kernel
theorem d_Rule_joined_147 : decode c_Rule_joined 147 = .ok (.lreturn, 1) := by decide +kernel
theorem d_Rule_joined_148 : decode c_Rule_joined 148 = .ok (.lload_n 1, 1) := by decide +kernel
theorem d_Rule_joined_149 : decode c_Rule_joined 149 = .ok (.lload_n 3, 1) := by decide +kernel
theorem d_Rule_joined_150 : decode c_Rule_joined 150 = .ok (.lcmp, 1) := by decide +kernel
theorem d_Rule_joined_151 : decode c_Rule_joined 151 = .ok (.ifCond .gt 7, 3) := by decide +kernel
theorem d_Rule_joined_154 : decode c_Rule_joined 154 = .ok (.lconst 1, 1) := by decide +kernel
theorem d_Rule_joined_155 : decode c_Rule_joined 155 = .ok (.goto 4, 3) := by decide +kernel
theorem d_Rule_joined_158 : decode c_Rule_joined 158 = .ok (.lconst 0, 1) := by decide +kernel
theorem d_Rule_joined_159 : decode c_Rule_joined 159 = .ok (.lreturn, 1) := by decide +kernel
theorem d_Rule_joined_160 : decode c_Rule_joined 160 = .ok (.lload_n 1, 1) := by decide +kernel
theorem d_Rule_joined_161 : decode c_Rule_joined 161 = .ok (.lload_n 3, 1) := by decide +kernel
theorem d_Rule_joined_162 : decode c_Rule_joined 162 = .ok (.lcmp, 1) := by decide +kernel
theorem d_Rule_joined_163 : decode c_Rule_joined 163 = .ok (.ifCond .ne 7, 3) := by decide +kernel
theorem d_Rule_joined_166 : decode c_Rule_joined 166 = .ok (.lconst 1, 1) := by decide +kernel
theorem d_Rule_joined_167 : decode c_Rule_joined 167 = .ok (.goto 4, 3) := by decide +kernel
theorem d_Rule_joined_170 : decode c_Rule_joined 170 = .ok (.lconst 0, 1) := by decide +kernel
theorem d_Rule_joined_171 : decode c_Rule_joined 171 = .ok (.lreturn, 1) := by decide +kernel
theorem d_Rule_joined_172 : decode c_Rule_joined 172 = .ok (.lload_n 1, 1) := by decide +kernel
theorem d_Rule_joined_173 : decode c_Rule_joined 173 = .ok (.lload_n 3, 1) := by decide +kernel
theorem d_Rule_joined_174 : decode c_Rule_joined 174 = .ok (.lcmp, 1) := by decide +kernel
theorem d_Rule_joined_175 : decode c_Rule_joined 175 = .ok (.ifCond .lt 7, 3) := by decide +kernel
theorem d_Rule_joined_178 : decode c_Rule_joined 178 = .ok (.lconst 1, 1) := by decide +kernel
theorem d_Rule_joined_179 : decode c_Rule_joined 179 = .ok (.goto 4, 3) := by decide +kernel
theorem d_Rule_joined_182 : decode c_Rule_joined 182 = .ok (.lconst 0, 1) := by decide +kernel
theorem d_Rule_joined_183 : decode c_Rule_joined 183 = .ok (.lreturn, 1) := by decide +kernel
theorem d_Rule_joined_184 : decode c_Rule_joined 184 = .ok (.lload_n 1, 1) := by decide +kernel
theorem d_Rule_joined_185 : decode c_Rule_joined 185 = .ok (.lload_n 3, 1) := by decide +kernel
theorem d_Rule_joined_186 : decode c_Rule_joined 186 = .ok (.lcmp, 1) := by decide +kernel
theorem d_Rule_joined_187 : decode c_Rule_joined 187 = .ok (.ifCond .le 7, 3) := by decide +kernel
theorem d_Rule_joined_190 : decode c_Rule_joined 190 = .ok (.lconst 1, 1) := by decide +kernel
theorem d_Rule_joined_191 : decode c_Rule_joined 191 = .ok (.goto 4, 3) := by decide +kernel
theorem d_Rule_joined_194 : decode c_Rule_joined 194 = .ok (.lconst 0, 1) := by decide +kernel
theorem d_Rule_joined_195 : decode c_Rule_joined 195 = .ok (.lreturn, 1) := by decide +kernel
abbrev c_Rule_asksFor : ByteArray := prog_8_method_5_code
def y_Rule_asksFor : MethodName := ⟨RX6, "asksFor", "(I)Z"⟩
theorem d_Rule_asksFor_0 : decode c_Rule_asksFor 0 = .ok (.iconst 0, 1) := by decide +kernel
theorem d_Rule_asksFor_1 : decode c_Rule_asksFor 1 = .ok (.istore_n 2, 1) := by decide +kernel
theorem d_Rule_asksFor_2 : decode c_Rule_asksFor 2 = .ok (.iload_n 2, 1) := by decide +kernel
theorem d_Rule_asksFor_3 : decode c_Rule_asksFor 3 = .ok (.aload_n 0, 1) := by decide +kernel
theorem d_Rule_asksFor_4 : decode c_Rule_asksFor 4 = .ok (.getfield 7, 3) := by decide +kernel
theorem d_Rule_asksFor_7 : decode c_Rule_asksFor 7 = .ok (.arraylength, 1) := by decide +kernel
theorem d_Rule_asksFor_8 : decode c_Rule_asksFor 8 = .ok (.if_icmp .ge 24, 3) := by decide +kernel
theorem d_Rule_asksFor_11 : decode c_Rule_asksFor 11 = .ok (.aload_n 0, 1) := by decide +kernel
theorem d_Rule_asksFor_12 : decode c_Rule_asksFor 12 = .ok (.getfield 7, 3) := by decide +kernel
theorem d_Rule_asksFor_15 : decode c_Rule_asksFor 15 = .ok (.iload_n 2, 1) := by decide +kernel
theorem d_Rule_asksFor_16 : decode c_Rule_asksFor 16 = .ok (.iaload, 1) := by decide +kernel
theorem d_Rule_asksFor_17 : decode c_Rule_asksFor 17 = .ok (.iload_n 1, 1) := by decide +kernel
theorem d_Rule_asksFor_18 : decode c_Rule_asksFor 18 = .ok (.invokestatic 31, 3) := by decide +kernel
theorem d_Rule_asksFor_21 : decode c_Rule_asksFor 21 = .ok (.if_icmp .ne 5, 3) := by decide +kernel
theorem d_Rule_asksFor_24 : decode c_Rule_asksFor 24 = .ok (.iconst 1, 1) := by decide +kernel
theorem d_Rule_asksFor_25 : decode c_Rule_asksFor 25 = .ok (.ireturn, 1) := by decide +kernel
theorem d_Rule_asksFor_26 : decode c_Rule_asksFor 26 = .ok (.iinc 2 1, 3) := by decide +kernel
theorem d_Rule_asksFor_29 : decode c_Rule_asksFor 29 = .ok (.goto (-27), 3) := by decide +kernel
theorem d_Rule_asksFor_32 : decode c_Rule_asksFor 32 = .ok (.iconst 0, 1) := by decide +kernel
theorem d_Rule_asksFor_33 : decode c_Rule_asksFor 33 = .ok (.ireturn, 1) := by decide +kernel
abbrev c_Rule_codeOf : ByteArray := prog_8_method_6_code
def y_Rule_codeOf : MethodName := ⟨RX6, "codeOf", "(I)I"⟩
theorem d_Rule_codeOf_0 : decode c_Rule_codeOf 0 = .ok (.iconst (-1), 1) := by decide +kernel
theorem d_Rule_codeOf_1 : decode c_Rule_codeOf 1 = .ok (.iload_n 0, 1) := by decide +kernel
theorem d_Rule_codeOf_2 : decode c_Rule_codeOf 2 = .ok (.isub, 1) := by decide +kernel
theorem d_Rule_codeOf_3 : decode c_Rule_codeOf 3 = .ok (.ireturn, 1) := by decide +kernel
abbrev c_RuleReader_init : ByteArray := prog_9_method_1_code
def y_RuleReader_init : MethodName := ⟨RX7, "<init>", "(LErrataRow$Tokens;)V"⟩
theorem d_RuleReader_init_0 : decode c_RuleReader_init 0 = .ok (.aload_n 0, 1) := by decide +kernel
theorem d_RuleReader_init_1 : decode c_RuleReader_init 1 = .ok (.invokespecial 3, 3) := by decide +kernel
theorem d_RuleReader_init_4 : decode c_RuleReader_init 4 = .ok (.aload_n 0, 1) := by decide +kernel
theorem d_RuleReader_init_5 : decode c_RuleReader_init 5 = .ok (.sipush 400, 3) := by decide +kernel
theorem d_RuleReader_init_8 : decode c_RuleReader_init 8 = .ok (.newarray .int, 2) := by decide +kernel
theorem d_RuleReader_init_10 : decode c_RuleReader_init 10 = .ok (.putfield 9, 3) := by decide +kernel
theorem d_RuleReader_init_13 : decode c_RuleReader_init 13 = .ok (.aload_n 0, 1) := by decide +kernel
theorem d_RuleReader_init_14 : decode c_RuleReader_init 14 = .ok (.bipush 12, 2) := by decide +kernel
theorem d_RuleReader_init_16 : decode c_RuleReader_init 16 = .ok (.newarray .int, 2) := by decide +kernel
theorem d_RuleReader_init_18 : decode c_RuleReader_init 18 = .ok (.putfield 15, 3) := by decide +kernel
theorem d_RuleReader_init_21 : decode c_RuleReader_init 21 = .ok (.aload_n 0, 1) := by decide +kernel
theorem d_RuleReader_init_22 : decode c_RuleReader_init 22 = .ok (.bipush 12, 2) := by decide +kernel
theorem d_RuleReader_init_24 : decode c_RuleReader_init 24 = .ok (.newarray .int, 2) := by decide +kernel
theorem d_RuleReader_init_26 : decode c_RuleReader_init 26 = .ok (.putfield 18, 3) := by decide +kernel
theorem d_RuleReader_init_29 : decode c_RuleReader_init 29 = .ok (.aload_n 0, 1) := by decide +kernel
theorem d_RuleReader_init_30 : decode c_RuleReader_init 30 = .ok (.aload_n 1, 1) := by decide +kernel
theorem d_RuleReader_init_31 : decode c_RuleReader_init 31 = .ok (.putfield 21, 3) := by decide +kernel
theorem d_RuleReader_init_34 : decode c_RuleReader_init 34 = .ok (.return_, 1) := by decide +kernel
abbrev c_RuleReader_made : ByteArray := prog_9_method_2_code
def y_RuleReader_made : MethodName := ⟨RX7, "made", "()LErrataRow$Rule;"⟩
theorem d_RuleReader_made_0 : decode c_RuleReader_made 0 = .ok (.new 25, 3) := by decide +kernel
theorem d_RuleReader_made_3 : decode c_RuleReader_made 3 = .ok (.dup, 1) := by decide +kernel
theorem d_RuleReader_made_4 : decode c_RuleReader_made 4 = .ok (.aload_n 0, 1) := by decide +kernel
theorem d_RuleReader_made_5 : decode c_RuleReader_made 5 = .ok (.getfield 9, 3) := by decide +kernel
theorem d_RuleReader_made_8 : decode c_RuleReader_made 8 = .ok (.aload_n 0, 1) := by decide +kernel
theorem d_RuleReader_made_9 : decode c_RuleReader_made 9 = .ok (.getfield 27, 3) := by decide +kernel
theorem d_RuleReader_made_12 : decode c_RuleReader_made 12 = .ok (.invokestatic 31, 3) := by decide +kernel
theorem d_RuleReader_made_15 : decode c_RuleReader_made 15 = .ok (.aload_n 0, 1) := by decide +kernel
theorem d_RuleReader_made_16 : decode c_RuleReader_made 16 = .ok (.getfield 15, 3) := by decide +kernel
theorem d_RuleReader_made_19 : decode c_RuleReader_made 19 = .ok (.aload_n 0, 1) := by decide +kernel
theorem d_RuleReader_made_20 : decode c_RuleReader_made 20 = .ok (.getfield 37, 3) := by decide +kernel
theorem d_RuleReader_made_23 : decode c_RuleReader_made 23 = .ok (.invokestatic 31, 3) := by decide +kernel
theorem d_RuleReader_made_26 : decode c_RuleReader_made 26 = .ok (.aload_n 0, 1) := by decide +kernel
theorem d_RuleReader_made_27 : decode c_RuleReader_made 27 = .ok (.getfield 18, 3) := by decide +kernel
theorem d_RuleReader_made_30 : decode c_RuleReader_made 30 = .ok (.aload_n 0, 1) := by decide +kernel
theorem d_RuleReader_made_31 : decode c_RuleReader_made 31 = .ok (.getfield 37, 3) := by decide +kernel
theorem d_RuleReader_made_34 : decode c_RuleReader_made 34 = .ok (.invokestatic 31, 3) := by decide +kernel
theorem d_RuleReader_made_37 : decode c_RuleReader_made 37 = .ok (.invokespecial 40, 3) := by decide +kernel
theorem d_RuleReader_made_40 : decode c_RuleReader_made 40 = .ok (.areturn, 1) := by decide +kernel
abbrev c_RuleReader_readRule : ByteArray := prog_9_method_3_code
def y_RuleReader_readRule : MethodName := ⟨RX7, "readRule", "()I"⟩
theorem d_RuleReader_readRule_0 : decode c_RuleReader_readRule 0 = .ok (.aload_n 0, 1) := by decide +kernel
theorem d_RuleReader_readRule_1 : decode c_RuleReader_readRule 1 = .ok (.iconst 0, 1) := by decide +kernel
theorem d_RuleReader_readRule_2 : decode c_RuleReader_readRule 2 = .ok (.putfield 27, 3) := by decide +kernel
theorem d_RuleReader_readRule_5 : decode c_RuleReader_readRule 5 = .ok (.aload_n 0, 1) := by decide +kernel
theorem d_RuleReader_readRule_6 : decode c_RuleReader_readRule 6 = .ok (.iconst 0, 1) := by decide +kernel
theorem d_RuleReader_readRule_7 : decode c_RuleReader_readRule 7 = .ok (.putfield 37, 3) := by decide +kernel
theorem d_RuleReader_readRule_10 : decode c_RuleReader_readRule 10 = .ok (.aload_n 0, 1) := by decide +kernel
theorem d_RuleReader_readRule_11 : decode c_RuleReader_readRule 11 = .ok (.iconst 0, 1) := by decide +kernel
theorem d_RuleReader_readRule_12 : decode c_RuleReader_readRule 12 = .ok (.putfield 43, 3) := by decide +kernel
theorem d_RuleReader_readRule_15 : decode c_RuleReader_readRule 15 = .ok (.aload_n 0, 1) := by decide +kernel
theorem d_RuleReader_readRule_16 : decode c_RuleReader_readRule 16 = .ok (.getfield 37, 3) := by decide +kernel
theorem d_RuleReader_readRule_19 : decode c_RuleReader_readRule 19 = .ok (.bipush 12, 2) := by decide +kernel
theorem d_RuleReader_readRule_21 : decode c_RuleReader_readRule 21 = .ok (.if_icmp .ge 126, 3) := by decide +kernel
theorem d_RuleReader_readRule_24 : decode c_RuleReader_readRule 24 = .ok (.aload_n 0, 1) := by decide +kernel
theorem d_RuleReader_readRule_25 : decode c_RuleReader_readRule 25 = .ok (.getfield 21, 3) := by decide +kernel
theorem d_RuleReader_readRule_28 : decode c_RuleReader_readRule 28 = .ok (.bipush 15, 2) := by decide +kernel
theorem d_RuleReader_readRule_30 : decode c_RuleReader_readRule 30 = .ok (.invokevirtual 48, 3) := by decide +kernel
theorem d_RuleReader_readRule_33 : decode c_RuleReader_readRule 33 = .ok (.ifCond .ne 19, 3) := by decide +kernel
theorem d_RuleReader_readRule_36 : decode c_RuleReader_readRule 36 = .ok (.aload_n 0, 1) := by decide +kernel
theorem d_RuleReader_readRule_37 : decode c_RuleReader_readRule 37 = .ok (.getfield 21, 3) := by decide +kernel
theorem d_RuleReader_readRule_40 : decode c_RuleReader_readRule 40 = .ok (.iconst 0, 1) := by decide +kernel
theorem d_RuleReader_readRule_41 : decode c_RuleReader_readRule 41 = .ok (.invokevirtual 52, 3) := by decide +kernel
theorem d_RuleReader_readRule_44 : decode c_RuleReader_readRule 44 = .ok (.aload_n 0, 1) := by decide +kernel
theorem d_RuleReader_readRule_45 : decode c_RuleReader_readRule 45 = .ok (.getfield 21, 3) := by decide +kernel
theorem d_RuleReader_readRule_48 : decode c_RuleReader_readRule 48 = .ok (.getfield 56, 3) := by decide +kernel
theorem d_RuleReader_readRule_51 : decode c_RuleReader_readRule 51 = .ok (.ireturn, 1) := by decide +kernel
theorem d_RuleReader_readRule_52 : decode c_RuleReader_readRule 52 = .ok (.aload_n 0, 1) := by decide +kernel
theorem d_RuleReader_readRule_53 : decode c_RuleReader_readRule 53 = .ok (.getfield 21, 3) := by decide +kernel
theorem d_RuleReader_readRule_56 : decode c_RuleReader_readRule 56 = .ok (.invokevirtual 59, 3) := by decide +kernel
theorem d_RuleReader_readRule_59 : decode c_RuleReader_readRule 59 = .ok (.aload_n 0, 1) := by decide +kernel
theorem d_RuleReader_readRule_60 : decode c_RuleReader_readRule 60 = .ok (.invokevirtual 62, 3) := by decide +kernel
theorem d_RuleReader_readRule_63 : decode c_RuleReader_readRule 63 = .ok (.aload_n 0, 1) := by decide +kernel
theorem d_RuleReader_readRule_64 : decode c_RuleReader_readRule 64 = .ok (.getfield 15, 3) := by decide +kernel
theorem d_RuleReader_readRule_67 : decode c_RuleReader_readRule 67 = .ok (.aload_n 0, 1) := by decide +kernel
theorem d_RuleReader_readRule_68 : decode c_RuleReader_readRule 68 = .ok (.getfield 37, 3) := by decide +kernel
theorem d_RuleReader_readRule_71 : decode c_RuleReader_readRule 71 = .ok (.aload_n 0, 1) := by decide +kernel
theorem d_RuleReader_readRule_72 : decode c_RuleReader_readRule 72 = .ok (.getfield 27, 3) := by decide +kernel
theorem d_RuleReader_readRule_75 : decode c_RuleReader_readRule 75 = .ok (.iastore, 1) := by decide +kernel
theorem d_RuleReader_readRule_76 : decode c_RuleReader_readRule 76 = .ok (.aload_n 0, 1) := by decide +kernel
theorem d_RuleReader_readRule_77 : decode c_RuleReader_readRule 77 = .ok (.getfield 21, 3) := by decide +kernel
theorem d_RuleReader_readRule_80 : decode c_RuleReader_readRule 80 = .ok (.bipush 16, 2) := by decide +kernel
theorem d_RuleReader_readRule_82 : decode c_RuleReader_readRule 82 = .ok (.invokevirtual 48, 3) := by decide +kernel
theorem d_RuleReader_readRule_85 : decode c_RuleReader_readRule 85 = .ok (.ifCond .eq 15, 3) := by decide +kernel
theorem d_RuleReader_readRule_88 : decode c_RuleReader_readRule 88 = .ok (.aload_n 0, 1) := by decide +kernel
theorem d_RuleReader_readRule_89 : decode c_RuleReader_readRule 89 = .ok (.getfield 21, 3) := by decide +kernel
theorem d_RuleReader_readRule_92 : decode c_RuleReader_readRule 92 = .ok (.invokevirtual 59, 3) := by decide +kernel
theorem d_RuleReader_readRule_95 : decode c_RuleReader_readRule 95 = .ok (.aload_n 0, 1) := by decide +kernel
theorem d_RuleReader_readRule_96 : decode c_RuleReader_readRule 96 = .ok (.iconst 0, 1) := by decide +kernel
theorem d_RuleReader_readRule_97 : decode c_RuleReader_readRule 97 = .ok (.invokevirtual 65, 3) := by decide +kernel
theorem d_RuleReader_readRule_100 : decode c_RuleReader_readRule 100 = .ok (.aload_n 0, 1) := by decide +kernel
theorem d_RuleReader_readRule_101 : decode c_RuleReader_readRule 101 = .ok (.getfield 18, 3) := by decide +kernel
theorem d_RuleReader_readRule_104 : decode c_RuleReader_readRule 104 = .ok (.aload_n 0, 1) := by decide +kernel
theorem d_RuleReader_readRule_105 : decode c_RuleReader_readRule 105 = .ok (.getfield 37, 3) := by decide +kernel
theorem d_RuleReader_readRule_108 : decode c_RuleReader_readRule 108 = .ok (.aload_n 0, 1) := by decide +kernel
theorem d_RuleReader_readRule_109 : decode c_RuleReader_readRule 109 = .ok (.getfield 27, 3) := by decide +kernel
theorem d_RuleReader_readRule_112 : decode c_RuleReader_readRule 112 = .ok (.iastore, 1) := by decide +kernel
theorem d_RuleReader_readRule_113 : decode c_RuleReader_readRule 113 = .ok (.aload_n 0, 1) := by decide +kernel
theorem d_RuleReader_readRule_114 : decode c_RuleReader_readRule 114 = .ok (.dup, 1) := by decide +kernel
theorem d_RuleReader_readRule_115 : decode c_RuleReader_readRule 115 = .ok (.getfield 37, 3) := by decide +kernel
theorem d_RuleReader_readRule_118 : decode c_RuleReader_readRule 118 = .ok (.iconst 1, 1) := by decide +kernel
theorem d_RuleReader_readRule_119 : decode c_RuleReader_readRule 119 = .ok (.iadd, 1) := by decide +kernel
theorem d_RuleReader_readRule_120 : decode c_RuleReader_readRule 120 = .ok (.putfield 37, 3) := by decide +kernel
theorem d_RuleReader_readRule_123 : decode c_RuleReader_readRule 123 = .ok (.aload_n 0, 1) := by decide +kernel
theorem d_RuleReader_readRule_124 : decode c_RuleReader_readRule 124 = .ok (.getfield 21, 3) := by decide +kernel
theorem d_RuleReader_readRule_127 : decode c_RuleReader_readRule 127 = .ok (.getfield 68, 3) := by decide +kernel
theorem d_RuleReader_readRule_130 : decode c_RuleReader_readRule 130 = .ok (.ifCond .ne 5, 3) := by decide +kernel
theorem d_RuleReader_readRule_133 : decode c_RuleReader_readRule 133 = .ok (.iconst 0, 1) := by decide +kernel
theorem d_RuleReader_readRule_134 : decode c_RuleReader_readRule 134 = .ok (.ireturn, 1) := by decide +kernel
theorem d_RuleReader_readRule_135 : decode c_RuleReader_readRule 135 = .ok (.aload_n 0, 1) := by decide +kernel
theorem d_RuleReader_readRule_136 : decode c_RuleReader_readRule 136 = .ok (.getfield 21, 3) := by decide +kernel
theorem d_RuleReader_readRule_139 : decode c_RuleReader_readRule 139 = .ok (.bipush 59, 2) := by decide +kernel
theorem d_RuleReader_readRule_141 : decode c_RuleReader_readRule 141 = .ok (.invokevirtual 71, 3) := by decide +kernel
theorem d_RuleReader_readRule_144 : decode c_RuleReader_readRule 144 = .ok (.goto (-129), 3) := by decide +kernel
theorem d_RuleReader_readRule_147 : decode c_RuleReader_readRule 147 = .ok (.aload_n 0, 1) := by decide +kernel
theorem d_RuleReader_readRule_148 : decode c_RuleReader_readRule 148 = .ok (.getfield 21, 3) := by decide +kernel
theorem d_RuleReader_readRule_151 : decode c_RuleReader_readRule 151 = .ok (.aload_n 0, 1) := by decide +kernel
theorem d_RuleReader_readRule_152 : decode c_RuleReader_readRule 152 = .ok (.getfield 21, 3) := by decide +kernel
theorem d_RuleReader_readRule_155 : decode c_RuleReader_readRule 155 = .ok (.bipush 15, 2) := by decide +kernel
theorem d_RuleReader_readRule_157 : decode c_RuleReader_readRule 157 = .ok (.invokevirtual 48, 3) := by decide +kernel
theorem d_RuleReader_readRule_160 : decode c_RuleReader_readRule 160 = .ok (.ifCond .eq 7, 3) := by decide +kernel
theorem d_RuleReader_readRule_163 : decode c_RuleReader_readRule 163 = .ok (.iconst 4, 1) := by decide +kernel
theorem d_RuleReader_readRule_164 : decode c_RuleReader_readRule 164 = .ok (.goto 4, 3) := by decide +kernel
theorem d_RuleReader_readRule_167 : decode c_RuleReader_readRule 167 = .ok (.iconst 0, 1) := by decide +kernel
theorem d_RuleReader_readRule_168 : decode c_RuleReader_readRule 168 = .ok (.invokevirtual 52, 3) := by decide +kernel
theorem d_RuleReader_readRule_171 : decode c_RuleReader_readRule 171 = .ok (.aload_n 0, 1) := by decide +kernel
theorem d_RuleReader_readRule_172 : decode c_RuleReader_readRule 172 = .ok (.getfield 21, 3) := by decide +kernel
theorem d_RuleReader_readRule_175 : decode c_RuleReader_readRule 175 = .ok (.getfield 56, 3) := by decide +kernel
theorem d_RuleReader_readRule_178 : decode c_RuleReader_readRule 178 = .ok (.ireturn, 1) := by decide +kernel
abbrev c_RuleReader_readTest : ByteArray := prog_9_method_4_code
def y_RuleReader_readTest : MethodName := ⟨RX7, "readTest", "(I)V"⟩
theorem d_RuleReader_readTest_0 : decode c_RuleReader_readTest 0 = .ok (.iconst 0, 1) := by decide +kernel
theorem d_RuleReader_readTest_1 : decode c_RuleReader_readTest 1 = .ok (.istore_n 2, 1) := by decide +kernel
theorem d_RuleReader_readTest_2 : decode c_RuleReader_readTest 2 = .ok (.iconst 0, 1) := by decide +kernel
theorem d_RuleReader_readTest_3 : decode c_RuleReader_readTest 3 = .ok (.istore_n 3, 1) := by decide +kernel
theorem d_RuleReader_readTest_4 : decode c_RuleReader_readTest 4 = .ok (.iconst 0, 1) := by decide +kernel
theorem d_RuleReader_readTest_5 : decode c_RuleReader_readTest 5 = .ok (.istore 4, 2) := by decide +kernel
theorem d_RuleReader_readTest_7 : decode c_RuleReader_readTest 7 = .ok (.iload 4, 2) := by decide +kernel
theorem d_RuleReader_readTest_9 : decode c_RuleReader_readTest 9 = .ok (.sipush 400, 3) := by decide +kernel
theorem d_RuleReader_readTest_12 : decode c_RuleReader_readTest 12 = .ok (.if_icmp .ge 70, 3) := by decide +kernel
theorem d_RuleReader_readTest_15 : decode c_RuleReader_readTest 15 = .ok (.aload_n 0, 1) := by decide +kernel
theorem d_RuleReader_readTest_16 : decode c_RuleReader_readTest 16 = .ok (.iload_n 1, 1) := by decide +kernel
theorem d_RuleReader_readTest_17 : decode c_RuleReader_readTest 17 = .ok (.invokevirtual 74, 3) := by decide +kernel
theorem d_RuleReader_readTest_20 : decode c_RuleReader_readTest 20 = .ok (.iload_n 3, 1) := by decide +kernel
theorem d_RuleReader_readTest_21 : decode c_RuleReader_readTest 21 = .ok (.ifCond .eq 9, 3) := by decide +kernel
theorem d_RuleReader_readTest_24 : decode c_RuleReader_readTest 24 = .ok (.aload_n 0, 1) := by decide +kernel
theorem d_RuleReader_readTest_25 : decode c_RuleReader_readTest 25 = .ok (.bipush (-21), 2) := by decide +kernel
theorem d_RuleReader_readTest_27 : decode c_RuleReader_readTest 27 = .ok (.invokevirtual 77, 3) := by decide +kernel
theorem d_RuleReader_readTest_30 : decode c_RuleReader_readTest 30 = .ok (.aload_n 0, 1) := by decide +kernel
theorem d_RuleReader_readTest_31 : decode c_RuleReader_readTest 31 = .ok (.getfield 21, 3) := by decide +kernel
theorem d_RuleReader_readTest_34 : decode c_RuleReader_readTest 34 = .ok (.bipush 18, 2) := by decide +kernel
theorem d_RuleReader_readTest_36 : decode c_RuleReader_readTest 36 = .ok (.invokevirtual 48, 3) := by decide +kernel
theorem d_RuleReader_readTest_39 : decode c_RuleReader_readTest 39 = .ok (.istore_n 3, 1) := by decide +kernel
theorem d_RuleReader_readTest_40 : decode c_RuleReader_readTest 40 = .ok (.iload_n 3, 1) := by decide +kernel
theorem d_RuleReader_readTest_41 : decode c_RuleReader_readTest 41 = .ok (.ifCond .ne 28, 3) := by decide +kernel
theorem d_RuleReader_readTest_44 : decode c_RuleReader_readTest 44 = .ok (.iload_n 2, 1) := by decide +kernel
theorem d_RuleReader_readTest_45 : decode c_RuleReader_readTest 45 = .ok (.ifCond .eq 9, 3) := by decide +kernel
theorem d_RuleReader_readTest_48 : decode c_RuleReader_readTest 48 = .ok (.aload_n 0, 1) := by decide +kernel
theorem d_RuleReader_readTest_49 : decode c_RuleReader_readTest 49 = .ok (.bipush (-22), 2) := by decide +kernel
theorem d_RuleReader_readTest_51 : decode c_RuleReader_readTest 51 = .ok (.invokevirtual 77, 3) := by decide +kernel
theorem d_RuleReader_readTest_54 : decode c_RuleReader_readTest 54 = .ok (.aload_n 0, 1) := by decide +kernel
theorem d_RuleReader_readTest_55 : decode c_RuleReader_readTest 55 = .ok (.getfield 21, 3) := by decide +kernel
theorem d_RuleReader_readTest_58 : decode c_RuleReader_readTest 58 = .ok (.bipush 17, 2) := by decide +kernel
theorem d_RuleReader_readTest_60 : decode c_RuleReader_readTest 60 = .ok (.invokevirtual 48, 3) := by decide +kernel
theorem d_RuleReader_readTest_63 : decode c_RuleReader_readTest 63 = .ok (.istore_n 2, 1) := by decide +kernel
theorem d_RuleReader_readTest_64 : decode c_RuleReader_readTest 64 = .ok (.iload_n 2, 1) := by decide +kernel
theorem d_RuleReader_readTest_65 : decode c_RuleReader_readTest 65 = .ok (.ifCond .ne 4, 3) := by decide +kernel
theorem d_RuleReader_readTest_68 : decode c_RuleReader_readTest 68 = .ok (.return_, 1) := by decide +kernel
theorem d_RuleReader_readTest_69 : decode c_RuleReader_readTest 69 = .ok (.aload_n 0, 1) := by decide +kernel
theorem d_RuleReader_readTest_70 : decode c_RuleReader_readTest 70 = .ok (.getfield 21, 3) := by decide +kernel
theorem d_RuleReader_readTest_73 : decode c_RuleReader_readTest 73 = .ok (.invokevirtual 59, 3) := by decide +kernel
theorem d_RuleReader_readTest_76 : decode c_RuleReader_readTest 76 = .ok (.iinc 4 1, 3) := by decide +kernel
theorem d_RuleReader_readTest_79 : decode c_RuleReader_readTest 79 = .ok (.goto (-72), 3) := by decide +kernel
theorem d_RuleReader_readTest_82 : decode c_RuleReader_readTest 82 = .ok (.return_, 1) := by decide +kernel
abbrev c_RuleReader_readFact : ByteArray := prog_9_method_5_code
def y_RuleReader_readFact : MethodName := ⟨RX7, "readFact", "(I)V"⟩
theorem d_RuleReader_readFact_0 : decode c_RuleReader_readFact 0 = .ok (.aload_n 0, 1) := by decide +kernel
theorem d_RuleReader_readFact_1 : decode c_RuleReader_readFact 1 = .ok (.getfield 21, 3) := by decide +kernel
theorem d_RuleReader_readFact_4 : decode c_RuleReader_readFact 4 = .ok (.bipush 19, 2) := by decide +kernel
theorem d_RuleReader_readFact_6 : decode c_RuleReader_readFact 6 = .ok (.invokevirtual 48, 3) := by decide +kernel
theorem d_RuleReader_readFact_9 : decode c_RuleReader_readFact 9 = .ok (.istore_n 2, 1) := by decide +kernel
theorem d_RuleReader_readFact_10 : decode c_RuleReader_readFact 10 = .ok (.iload_n 2, 1) := by decide +kernel
theorem d_RuleReader_readFact_11 : decode c_RuleReader_readFact 11 = .ok (.ifCond .ne 22, 3) := by decide +kernel
theorem d_RuleReader_readFact_14 : decode c_RuleReader_readFact 14 = .ok (.aload_n 0, 1) := by decide +kernel
theorem d_RuleReader_readFact_15 : decode c_RuleReader_readFact 15 = .ok (.getfield 21, 3) := by decide +kernel
theorem d_RuleReader_readFact_18 : decode c_RuleReader_readFact 18 = .ok (.bipush 91, 2) := by decide +kernel
theorem d_RuleReader_readFact_20 : decode c_RuleReader_readFact 20 = .ok (.invokevirtual 80, 3) := by decide +kernel
theorem d_RuleReader_readFact_23 : decode c_RuleReader_readFact 23 = .ok (.ifCond .ne 10, 3) := by decide +kernel
theorem d_RuleReader_readFact_26 : decode c_RuleReader_readFact 26 = .ok (.aload_n 0, 1) := by decide +kernel
theorem d_RuleReader_readFact_27 : decode c_RuleReader_readFact 27 = .ok (.invokevirtual 83, 3) := by decide +kernel
theorem d_RuleReader_readFact_30 : decode c_RuleReader_readFact 30 = .ok (.goto 63, 3) := by decide +kernel
theorem d_RuleReader_readFact_33 : decode c_RuleReader_readFact 33 = .ok (.iload_n 1, 1) := by decide +kernel
theorem d_RuleReader_readFact_34 : decode c_RuleReader_readFact 34 = .ok (.bipush 10, 2) := by decide +kernel
theorem d_RuleReader_readFact_36 : decode c_RuleReader_readFact 36 = .ok (.if_icmp .lt 14, 3) := by decide +kernel
theorem d_RuleReader_readFact_39 : decode c_RuleReader_readFact 39 = .ok (.aload_n 0, 1) := by decide +kernel
theorem d_RuleReader_readFact_40 : decode c_RuleReader_readFact 40 = .ok (.getfield 21, 3) := by decide +kernel
theorem d_RuleReader_readFact_43 : decode c_RuleReader_readFact 43 = .ok (.iconst 2, 1) := by decide +kernel
theorem d_RuleReader_readFact_44 : decode c_RuleReader_readFact 44 = .ok (.invokevirtual 52, 3) := by decide +kernel
theorem d_RuleReader_readFact_47 : decode c_RuleReader_readFact 47 = .ok (.goto 46, 3) := by decide +kernel
theorem d_RuleReader_readFact_50 : decode c_RuleReader_readFact 50 = .ok (.aload_n 0, 1) := by decide +kernel
theorem d_RuleReader_readFact_51 : decode c_RuleReader_readFact 51 = .ok (.getfield 21, 3) := by decide +kernel
theorem d_RuleReader_readFact_54 : decode c_RuleReader_readFact 54 = .ok (.invokevirtual 59, 3) := by decide +kernel
theorem d_RuleReader_readFact_57 : decode c_RuleReader_readFact 57 = .ok (.iload_n 2, 1) := by decide +kernel
theorem d_RuleReader_readFact_58 : decode c_RuleReader_readFact 58 = .ok (.ifCond .eq 19, 3) := by decide +kernel
theorem d_RuleReader_readFact_61 : decode c_RuleReader_readFact 61 = .ok (.aload_n 0, 1) := by decide +kernel
theorem d_RuleReader_readFact_62 : decode c_RuleReader_readFact 62 = .ok (.iload_n 1, 1) := by decide +kernel
theorem d_RuleReader_readFact_63 : decode c_RuleReader_readFact 63 = .ok (.iconst 1, 1) := by decide +kernel
theorem d_RuleReader_readFact_64 : decode c_RuleReader_readFact 64 = .ok (.iadd, 1) := by decide +kernel
theorem d_RuleReader_readFact_65 : decode c_RuleReader_readFact 65 = .ok (.invokevirtual 74, 3) := by decide +kernel
theorem d_RuleReader_readFact_68 : decode c_RuleReader_readFact 68 = .ok (.aload_n 0, 1) := by decide +kernel
theorem d_RuleReader_readFact_69 : decode c_RuleReader_readFact 69 = .ok (.bipush (-20), 2) := by decide +kernel
theorem d_RuleReader_readFact_71 : decode c_RuleReader_readFact 71 = .ok (.invokevirtual 77, 3) := by decide +kernel
theorem d_RuleReader_readFact_74 : decode c_RuleReader_readFact 74 = .ok (.goto 19, 3) := by decide +kernel
theorem d_RuleReader_readFact_77 : decode c_RuleReader_readFact 77 = .ok (.aload_n 0, 1) := by decide +kernel
theorem d_RuleReader_readFact_78 : decode c_RuleReader_readFact 78 = .ok (.iload_n 1, 1) := by decide +kernel
theorem d_RuleReader_readFact_79 : decode c_RuleReader_readFact 79 = .ok (.iconst 1, 1) := by decide +kernel
theorem d_RuleReader_readFact_80 : decode c_RuleReader_readFact 80 = .ok (.iadd, 1) := by decide +kernel
theorem d_RuleReader_readFact_81 : decode c_RuleReader_readFact 81 = .ok (.invokevirtual 65, 3) := by decide +kernel
theorem d_RuleReader_readFact_84 : decode c_RuleReader_readFact 84 = .ok (.aload_n 0, 1) := by decide +kernel
theorem d_RuleReader_readFact_85 : decode c_RuleReader_readFact 85 = .ok (.getfield 21, 3) := by decide +kernel
theorem d_RuleReader_readFact_88 : decode c_RuleReader_readFact 88 = .ok (.bipush 93, 2) := by decide +kernel
theorem d_RuleReader_readFact_90 : decode c_RuleReader_readFact 90 = .ok (.invokevirtual 71, 3) := by decide +kernel
theorem d_RuleReader_readFact_93 : decode c_RuleReader_readFact 93 = .ok (.return_, 1) := by decide +kernel
abbrev c_RuleReader_readComparison : ByteArray := prog_9_method_6_code
def y_RuleReader_readComparison : MethodName := ⟨RX7, "readComparison", "()V"⟩
theorem d_RuleReader_readComparison_0 : decode c_RuleReader_readComparison 0 = .ok (.aload_n 0, 1) := by decide +kernel
theorem d_RuleReader_readComparison_1 : decode c_RuleReader_readComparison 1 = .ok (.invokevirtual 62, 3) := by decide +kernel
theorem d_RuleReader_readComparison_4 : decode c_RuleReader_readComparison 4 = .ok (.aload_n 0, 1) := by decide +kernel
theorem d_RuleReader_readComparison_5 : decode c_RuleReader_readComparison 5 = .ok (.invokevirtual 86, 3) := by decide +kernel
theorem d_RuleReader_readComparison_8 : decode c_RuleReader_readComparison 8 = .ok (.istore_n 1, 1) := by decide +kernel
theorem d_RuleReader_readComparison_9 : decode c_RuleReader_readComparison 9 = .ok (.iload_n 1, 1) := by decide +kernel
theorem d_RuleReader_readComparison_10 : decode c_RuleReader_readComparison 10 = .ok (.ifCond .ne 14, 3) := by decide +kernel
theorem d_RuleReader_readComparison_13 : decode c_RuleReader_readComparison 13 = .ok (.aload_n 0, 1) := by decide +kernel
theorem d_RuleReader_readComparison_14 : decode c_RuleReader_readComparison 14 = .ok (.getfield 21, 3) := by decide +kernel
theorem d_RuleReader_readComparison_17 : decode c_RuleReader_readComparison 17 = .ok (.iconst 0, 1) := by decide +kernel
theorem d_RuleReader_readComparison_18 : decode c_RuleReader_readComparison 18 = .ok (.invokevirtual 52, 3) := by decide +kernel
theorem d_RuleReader_readComparison_21 : decode c_RuleReader_readComparison 21 = .ok (.goto 49, 3) := by decide +kernel
theorem d_RuleReader_readComparison_24 : decode c_RuleReader_readComparison 24 = .ok (.aload_n 0, 1) := by decide +kernel
theorem d_RuleReader_readComparison_25 : decode c_RuleReader_readComparison 25 = .ok (.getfield 43, 3) := by decide +kernel
theorem d_RuleReader_readComparison_28 : decode c_RuleReader_readComparison 28 = .ok (.bipush 60, 2) := by decide +kernel
theorem d_RuleReader_readComparison_30 : decode c_RuleReader_readComparison 30 = .ok (.if_icmp .lt 14, 3) := by decide +kernel
theorem d_RuleReader_readComparison_33 : decode c_RuleReader_readComparison 33 = .ok (.aload_n 0, 1) := by decide +kernel
theorem d_RuleReader_readComparison_34 : decode c_RuleReader_readComparison 34 = .ok (.getfield 21, 3) := by decide +kernel
theorem d_RuleReader_readComparison_37 : decode c_RuleReader_readComparison 37 = .ok (.iconst 3, 1) := by decide +kernel
theorem d_RuleReader_readComparison_38 : decode c_RuleReader_readComparison 38 = .ok (.invokevirtual 52, 3) := by decide +kernel
theorem d_RuleReader_readComparison_41 : decode c_RuleReader_readComparison 41 = .ok (.goto 29, 3) := by decide +kernel
theorem d_RuleReader_readComparison_44 : decode c_RuleReader_readComparison 44 = .ok (.aload_n 0, 1) := by decide +kernel
theorem d_RuleReader_readComparison_45 : decode c_RuleReader_readComparison 45 = .ok (.dup, 1) := by decide +kernel
theorem d_RuleReader_readComparison_46 : decode c_RuleReader_readComparison 46 = .ok (.getfield 43, 3) := by decide +kernel
theorem d_RuleReader_readComparison_49 : decode c_RuleReader_readComparison 49 = .ok (.iconst 1, 1) := by decide +kernel
theorem d_RuleReader_readComparison_50 : decode c_RuleReader_readComparison 50 = .ok (.iadd, 1) := by decide +kernel
theorem d_RuleReader_readComparison_51 : decode c_RuleReader_readComparison 51 = .ok (.putfield 43, 3) := by decide +kernel
theorem d_RuleReader_readComparison_54 : decode c_RuleReader_readComparison 54 = .ok (.aload_n 0, 1) := by decide +kernel
theorem d_RuleReader_readComparison_55 : decode c_RuleReader_readComparison 55 = .ok (.getfield 21, 3) := by decide +kernel
theorem d_RuleReader_readComparison_58 : decode c_RuleReader_readComparison 58 = .ok (.invokevirtual 59, 3) := by decide +kernel
theorem d_RuleReader_readComparison_61 : decode c_RuleReader_readComparison 61 = .ok (.aload_n 0, 1) := by decide +kernel
theorem d_RuleReader_readComparison_62 : decode c_RuleReader_readComparison 62 = .ok (.invokevirtual 62, 3) := by decide +kernel
theorem d_RuleReader_readComparison_65 : decode c_RuleReader_readComparison 65 = .ok (.aload_n 0, 1) := by decide +kernel
theorem d_RuleReader_readComparison_66 : decode c_RuleReader_readComparison 66 = .ok (.iload_n 1, 1) := by decide +kernel
theorem d_RuleReader_readComparison_67 : decode c_RuleReader_readComparison 67 = .ok (.invokevirtual 77, 3) := by decide +kernel
theorem d_RuleReader_readComparison_70 : decode c_RuleReader_readComparison 70 = .ok (.return_, 1) := by decide +kernel
abbrev c_RuleReader_readSum : ByteArray := prog_9_method_7_code
def y_RuleReader_readSum : MethodName := ⟨RX7, "readSum", "()V"⟩
theorem d_RuleReader_readSum_0 : decode c_RuleReader_readSum 0 = .ok (.iconst 0, 1) := by decide +kernel
theorem d_RuleReader_readSum_1 : decode c_RuleReader_readSum 1 = .ok (.istore_n 1, 1) := by decide +kernel
theorem d_RuleReader_readSum_2 : decode c_RuleReader_readSum 2 = .ok (.iconst 0, 1) := by decide +kernel
theorem d_RuleReader_readSum_3 : decode c_RuleReader_readSum 3 = .ok (.istore_n 2, 1) := by decide +kernel
theorem d_RuleReader_readSum_4 : decode c_RuleReader_readSum 4 = .ok (.iconst 0, 1) := by decide +kernel
theorem d_RuleReader_readSum_5 : decode c_RuleReader_readSum 5 = .ok (.istore_n 3, 1) := by decide +kernel
theorem d_RuleReader_readSum_6 : decode c_RuleReader_readSum 6 = .ok (.iload_n 3, 1) := by decide +kernel
theorem d_RuleReader_readSum_7 : decode c_RuleReader_readSum 7 = .ok (.sipush 400, 3) := by decide +kernel
theorem d_RuleReader_readSum_10 : decode c_RuleReader_readSum 10 = .ok (.if_icmp .ge 57, 3) := by decide +kernel
theorem d_RuleReader_readSum_13 : decode c_RuleReader_readSum 13 = .ok (.aload_n 0, 1) := by decide +kernel
theorem d_RuleReader_readSum_14 : decode c_RuleReader_readSum 14 = .ok (.invokevirtual 90, 3) := by decide +kernel
theorem d_RuleReader_readSum_17 : decode c_RuleReader_readSum 17 = .ok (.iload_n 2, 1) := by decide +kernel
theorem d_RuleReader_readSum_18 : decode c_RuleReader_readSum 18 = .ok (.ifCond .eq 8, 3) := by decide +kernel
theorem d_RuleReader_readSum_21 : decode c_RuleReader_readSum 21 = .ok (.aload_n 0, 1) := by decide +kernel
theorem d_RuleReader_readSum_22 : decode c_RuleReader_readSum 22 = .ok (.iload_n 2, 1) := by decide +kernel
theorem d_RuleReader_readSum_23 : decode c_RuleReader_readSum 23 = .ok (.invokevirtual 77, 3) := by decide +kernel
theorem d_RuleReader_readSum_26 : decode c_RuleReader_readSum 26 = .ok (.aload_n 0, 1) := by decide +kernel
theorem d_RuleReader_readSum_27 : decode c_RuleReader_readSum 27 = .ok (.invokevirtual 93, 3) := by decide +kernel
theorem d_RuleReader_readSum_30 : decode c_RuleReader_readSum 30 = .ok (.istore_n 2, 1) := by decide +kernel
theorem d_RuleReader_readSum_31 : decode c_RuleReader_readSum 31 = .ok (.iload_n 2, 1) := by decide +kernel
theorem d_RuleReader_readSum_32 : decode c_RuleReader_readSum 32 = .ok (.ifCond .ne 22, 3) := by decide +kernel
theorem d_RuleReader_readSum_35 : decode c_RuleReader_readSum 35 = .ok (.iload_n 1, 1) := by decide +kernel
theorem d_RuleReader_readSum_36 : decode c_RuleReader_readSum 36 = .ok (.ifCond .eq 8, 3) := by decide +kernel
theorem d_RuleReader_readSum_39 : decode c_RuleReader_readSum 39 = .ok (.aload_n 0, 1) := by decide +kernel
theorem d_RuleReader_readSum_40 : decode c_RuleReader_readSum 40 = .ok (.iload_n 1, 1) := by decide +kernel
theorem d_RuleReader_readSum_41 : decode c_RuleReader_readSum 41 = .ok (.invokevirtual 77, 3) := by decide +kernel
theorem d_RuleReader_readSum_44 : decode c_RuleReader_readSum 44 = .ok (.aload_n 0, 1) := by decide +kernel
theorem d_RuleReader_readSum_45 : decode c_RuleReader_readSum 45 = .ok (.invokevirtual 96, 3) := by decide +kernel
theorem d_RuleReader_readSum_48 : decode c_RuleReader_readSum 48 = .ok (.istore_n 1, 1) := by decide +kernel
theorem d_RuleReader_readSum_49 : decode c_RuleReader_readSum 49 = .ok (.iload_n 1, 1) := by decide +kernel
theorem d_RuleReader_readSum_50 : decode c_RuleReader_readSum 50 = .ok (.ifCond .ne 4, 3) := by decide +kernel
theorem d_RuleReader_readSum_53 : decode c_RuleReader_readSum 53 = .ok (.return_, 1) := by decide +kernel
theorem d_RuleReader_readSum_54 : decode c_RuleReader_readSum 54 = .ok (.aload_n 0, 1) := by decide +kernel
theorem d_RuleReader_readSum_55 : decode c_RuleReader_readSum 55 = .ok (.getfield 21, 3) := by decide +kernel
theorem d_RuleReader_readSum_58 : decode c_RuleReader_readSum 58 = .ok (.invokevirtual 59, 3) := by decide +kernel
theorem d_RuleReader_readSum_61 : decode c_RuleReader_readSum 61 = .ok (.iinc 3 1, 3) := by decide +kernel
theorem d_RuleReader_readSum_64 : decode c_RuleReader_readSum 64 = .ok (.goto (-58), 3) := by decide +kernel
theorem d_RuleReader_readSum_67 : decode c_RuleReader_readSum 67 = .ok (.return_, 1) := by decide +kernel
abbrev c_RuleReader_readValue : ByteArray := prog_9_method_8_code
def y_RuleReader_readValue : MethodName := ⟨RX7, "readValue", "()V"⟩
theorem d_RuleReader_readValue_0 : decode c_RuleReader_readValue 0 = .ok (.aload_n 0, 1) := by decide +kernel
theorem d_RuleReader_readValue_1 : decode c_RuleReader_readValue 1 = .ok (.getfield 21, 3) := by decide +kernel
theorem d_RuleReader_readValue_4 : decode c_RuleReader_readValue 4 = .ok (.getfield 68, 3) := by decide +kernel
theorem d_RuleReader_readValue_7 : decode c_RuleReader_readValue 7 = .ok (.iconst 3, 1) := by decide +kernel
theorem d_RuleReader_readValue_8 : decode c_RuleReader_readValue 8 = .ok (.if_icmp .ne 19, 3) := by decide +kernel
theorem d_RuleReader_readValue_11 : decode c_RuleReader_readValue 11 = .ok (.aload_n 0, 1) := by decide +kernel
theorem d_RuleReader_readValue_12 : decode c_RuleReader_readValue 12 = .ok (.getfield 21, 3) := by decide +kernel
theorem d_RuleReader_readValue_15 : decode c_RuleReader_readValue 15 = .ok (.getfield 99, 3) := by decide +kernel
theorem d_RuleReader_readValue_18 : decode c_RuleReader_readValue 18 = .ok (.bipush 12, 2) := by decide +kernel
theorem d_RuleReader_readValue_20 : decode c_RuleReader_readValue 20 = .ok (.if_icmp .ge 7, 3) := by decide +kernel
theorem d_RuleReader_readValue_23 : decode c_RuleReader_readValue 23 = .ok (.iconst 1, 1) := by decide +kernel
theorem d_RuleReader_readValue_24 : decode c_RuleReader_readValue 24 = .ok (.goto 4, 3) := by decide +kernel
theorem d_RuleReader_readValue_27 : decode c_RuleReader_readValue 27 = .ok (.iconst 0, 1) := by decide +kernel
theorem d_RuleReader_readValue_28 : decode c_RuleReader_readValue 28 = .ok (.istore_n 1, 1) := by decide +kernel
theorem d_RuleReader_readValue_29 : decode c_RuleReader_readValue 29 = .ok (.aload_n 0, 1) := by decide +kernel
theorem d_RuleReader_readValue_30 : decode c_RuleReader_readValue 30 = .ok (.getfield 21, 3) := by decide +kernel
theorem d_RuleReader_readValue_33 : decode c_RuleReader_readValue 33 = .ok (.getfield 68, 3) := by decide +kernel
theorem d_RuleReader_readValue_36 : decode c_RuleReader_readValue 36 = .ok (.iconst 2, 1) := by decide +kernel
theorem d_RuleReader_readValue_37 : decode c_RuleReader_readValue 37 = .ok (.if_icmp .ne 14, 3) := by decide +kernel
theorem d_RuleReader_readValue_40 : decode c_RuleReader_readValue 40 = .ok (.aload_n 0, 1) := by decide +kernel
theorem d_RuleReader_readValue_41 : decode c_RuleReader_readValue 41 = .ok (.getfield 21, 3) := by decide +kernel
theorem d_RuleReader_readValue_44 : decode c_RuleReader_readValue 44 = .ok (.iconst 1, 1) := by decide +kernel
theorem d_RuleReader_readValue_45 : decode c_RuleReader_readValue 45 = .ok (.invokevirtual 52, 3) := by decide +kernel
theorem d_RuleReader_readValue_48 : decode c_RuleReader_readValue 48 = .ok (.goto 94, 3) := by decide +kernel
theorem d_RuleReader_readValue_51 : decode c_RuleReader_readValue 51 = .ok (.iload_n 1, 1) := by decide +kernel
theorem d_RuleReader_readValue_52 : decode c_RuleReader_readValue 52 = .ok (.ifCond .ne 25, 3) := by decide +kernel
theorem d_RuleReader_readValue_55 : decode c_RuleReader_readValue 55 = .ok (.aload_n 0, 1) := by decide +kernel
theorem d_RuleReader_readValue_56 : decode c_RuleReader_readValue 56 = .ok (.getfield 21, 3) := by decide +kernel
theorem d_RuleReader_readValue_59 : decode c_RuleReader_readValue 59 = .ok (.getfield 68, 3) := by decide +kernel
theorem d_RuleReader_readValue_62 : decode c_RuleReader_readValue 62 = .ok (.iconst 1, 1) := by decide +kernel
theorem d_RuleReader_readValue_63 : decode c_RuleReader_readValue 63 = .ok (.if_icmp .eq 14, 3) := by decide +kernel
theorem d_RuleReader_readValue_66 : decode c_RuleReader_readValue 66 = .ok (.aload_n 0, 1) := by decide +kernel
theorem d_RuleReader_readValue_67 : decode c_RuleReader_readValue 67 = .ok (.getfield 21, 3) := by decide +kernel
theorem d_RuleReader_readValue_70 : decode c_RuleReader_readValue 70 = .ok (.iconst 0, 1) := by decide +kernel
theorem d_RuleReader_readValue_71 : decode c_RuleReader_readValue 71 = .ok (.invokevirtual 52, 3) := by decide +kernel
theorem d_RuleReader_readValue_74 : decode c_RuleReader_readValue 74 = .ok (.goto 68, 3) := by decide +kernel
theorem d_RuleReader_readValue_77 : decode c_RuleReader_readValue 77 = .ok (.aload_n 0, 1) := by decide +kernel
theorem d_RuleReader_readValue_78 : decode c_RuleReader_readValue 78 = .ok (.getfield 43, 3) := by decide +kernel
theorem d_RuleReader_readValue_81 : decode c_RuleReader_readValue 81 = .ok (.bipush 60, 2) := by decide +kernel
theorem d_RuleReader_readValue_83 : decode c_RuleReader_readValue 83 = .ok (.if_icmp .lt 14, 3) := by decide +kernel
theorem d_RuleReader_readValue_86 : decode c_RuleReader_readValue 86 = .ok (.aload_n 0, 1) := by decide +kernel
theorem d_RuleReader_readValue_87 : decode c_RuleReader_readValue 87 = .ok (.getfield 21, 3) := by decide +kernel
theorem d_RuleReader_readValue_90 : decode c_RuleReader_readValue 90 = .ok (.iconst 3, 1) := by decide +kernel
theorem d_RuleReader_readValue_91 : decode c_RuleReader_readValue 91 = .ok (.invokevirtual 52, 3) := by decide +kernel
theorem d_RuleReader_readValue_94 : decode c_RuleReader_readValue 94 = .ok (.goto 48, 3) := by decide +kernel
theorem d_RuleReader_readValue_97 : decode c_RuleReader_readValue 97 = .ok (.aload_n 0, 1) := by decide +kernel
theorem d_RuleReader_readValue_98 : decode c_RuleReader_readValue 98 = .ok (.dup, 1) := by decide +kernel
theorem d_RuleReader_readValue_99 : decode c_RuleReader_readValue 99 = .ok (.getfield 43, 3) := by decide +kernel
theorem d_RuleReader_readValue_102 : decode c_RuleReader_readValue 102 = .ok (.iconst 1, 1) := by decide +kernel
theorem d_RuleReader_readValue_103 : decode c_RuleReader_readValue 103 = .ok (.iadd, 1) := by decide +kernel
theorem d_RuleReader_readValue_104 : decode c_RuleReader_readValue 104 = .ok (.putfield 43, 3) := by decide +kernel
theorem d_RuleReader_readValue_107 : decode c_RuleReader_readValue 107 = .ok (.aload_n 0, 1) := by decide +kernel
theorem d_RuleReader_readValue_108 : decode c_RuleReader_readValue 108 = .ok (.iload_n 1, 1) := by decide +kernel
theorem d_RuleReader_readValue_109 : decode c_RuleReader_readValue 109 = .ok (.ifCond .eq 16, 3) := by decide +kernel
theorem d_RuleReader_readValue_112 : decode c_RuleReader_readValue 112 = .ok (.aload_n 0, 1) := by decide +kernel
theorem d_RuleReader_readValue_113 : decode c_RuleReader_readValue 113 = .ok (.getfield 21, 3) := by decide +kernel
theorem d_RuleReader_readValue_116 : decode c_RuleReader_readValue 116 = .ok (.getfield 99, 3) := by decide +kernel
theorem d_RuleReader_readValue_119 : decode c_RuleReader_readValue 119 = .ok (.invokestatic 102, 3) := by decide +kernel
theorem d_RuleReader_readValue_122 : decode c_RuleReader_readValue 122 = .ok (.goto 10, 3) := by decide +kernel
theorem d_RuleReader_readValue_125 : decode c_RuleReader_readValue 125 = .ok (.aload_n 0, 1) := by decide +kernel
theorem d_RuleReader_readValue_126 : decode c_RuleReader_readValue 126 = .ok (.getfield 21, 3) := by decide +kernel
theorem d_RuleReader_readValue_129 : decode c_RuleReader_readValue 129 = .ok (.getfield 99, 3) := by decide +kernel
theorem d_RuleReader_readValue_132 : decode c_RuleReader_readValue 132 = .ok (.invokevirtual 77, 3) := by decide +kernel
theorem d_RuleReader_readValue_135 : decode c_RuleReader_readValue 135 = .ok (.aload_n 0, 1) := by decide +kernel
theorem d_RuleReader_readValue_136 : decode c_RuleReader_readValue 136 = .ok (.getfield 21, 3) := by decide +kernel
theorem d_RuleReader_readValue_139 : decode c_RuleReader_readValue 139 = .ok (.invokevirtual 59, 3) := by decide +kernel
theorem d_RuleReader_readValue_142 : decode c_RuleReader_readValue 142 = .ok (.return_, 1) := by decide +kernel
abbrev c_RuleReader_add : ByteArray := prog_9_method_9_code
def y_RuleReader_add : MethodName := ⟨RX7, "add", "(I)V"⟩
theorem d_RuleReader_add_0 : decode c_RuleReader_add 0 = .ok (.aload_n 0, 1) := by decide +kernel
theorem d_RuleReader_add_1 : decode c_RuleReader_add 1 = .ok (.getfield 27, 3) := by decide +kernel
theorem d_RuleReader_add_4 : decode c_RuleReader_add 4 = .ok (.aload_n 0, 1) := by decide +kernel
theorem d_RuleReader_add_5 : decode c_RuleReader_add 5 = .ok (.getfield 9, 3) := by decide +kernel
theorem d_RuleReader_add_8 : decode c_RuleReader_add 8 = .ok (.arraylength, 1) := by decide +kernel
theorem d_RuleReader_add_9 : decode c_RuleReader_add 9 = .ok (.if_icmp .ge 23, 3) := by decide +kernel
theorem d_RuleReader_add_12 : decode c_RuleReader_add 12 = .ok (.aload_n 0, 1) := by decide +kernel
theorem d_RuleReader_add_13 : decode c_RuleReader_add 13 = .ok (.getfield 9, 3) := by decide +kernel
theorem d_RuleReader_add_16 : decode c_RuleReader_add 16 = .ok (.aload_n 0, 1) := by decide +kernel
theorem d_RuleReader_add_17 : decode c_RuleReader_add 17 = .ok (.getfield 27, 3) := by decide +kernel
theorem d_RuleReader_add_20 : decode c_RuleReader_add 20 = .ok (.iload_n 1, 1) := by decide +kernel
theorem d_RuleReader_add_21 : decode c_RuleReader_add 21 = .ok (.iastore, 1) := by decide +kernel
theorem d_RuleReader_add_22 : decode c_RuleReader_add 22 = .ok (.aload_n 0, 1) := by decide +kernel
theorem d_RuleReader_add_23 : decode c_RuleReader_add 23 = .ok (.dup, 1) := by decide +kernel
theorem d_RuleReader_add_24 : decode c_RuleReader_add 24 = .ok (.getfield 27, 3) := by decide +kernel
theorem d_RuleReader_add_27 : decode c_RuleReader_add 27 = .ok (.iconst 1, 1) := by decide +kernel
theorem d_RuleReader_add_28 : decode c_RuleReader_add 28 = .ok (.iadd, 1) := by decide +kernel
theorem d_RuleReader_add_29 : decode c_RuleReader_add 29 = .ok (.putfield 27, 3) := by decide +kernel
theorem d_RuleReader_add_32 : decode c_RuleReader_add 32 = .ok (.return_, 1) := by decide +kernel
abbrev c_RuleReader_codeOfComparison : ByteArray := prog_9_method_10_code
def y_RuleReader_codeOfComparison : MethodName := ⟨RX7, "codeOfComparison", "()I"⟩
theorem d_RuleReader_codeOfComparison_0 : decode c_RuleReader_codeOfComparison 0 = .ok (.aload_n 0, 1) := by decide +kernel
theorem d_RuleReader_codeOfComparison_1 : decode c_RuleReader_codeOfComparison 1 = .ok (.getfield 21, 3) := by decide +kernel
theorem d_RuleReader_codeOfComparison_4 : decode c_RuleReader_codeOfComparison 4 = .ok (.getfield 68, 3) := by decide +kernel
theorem d_RuleReader_codeOfComparison_7 : decode c_RuleReader_codeOfComparison 7 = .ok (.iconst 4, 1) := by decide +kernel
theorem d_RuleReader_codeOfComparison_8 : decode c_RuleReader_codeOfComparison 8 = .ok (.if_icmp .eq 5, 3) := by decide +kernel
theorem d_RuleReader_codeOfComparison_11 : decode c_RuleReader_codeOfComparison 11 = .ok (.iconst 0, 1) := by decide +kernel
theorem d_RuleReader_codeOfComparison_12 : decode c_RuleReader_codeOfComparison 12 = .ok (.ireturn, 1) := by decide +kernel
theorem d_RuleReader_codeOfComparison_13 : decode c_RuleReader_codeOfComparison 13 = .ok (.aload_n 0, 1) := by decide +kernel
theorem d_RuleReader_codeOfComparison_14 : decode c_RuleReader_codeOfComparison 14 = .ok (.getfield 21, 3) := by decide +kernel
theorem d_RuleReader_codeOfComparison_17 : decode c_RuleReader_codeOfComparison 17 = .ok (.getfield 99, 3) := by decide +kernel
theorem d_RuleReader_codeOfComparison_20 : decode c_RuleReader_codeOfComparison 20 = .ok (.lookupswitch 67 #[(60, 52), (61, 58), (62, 64), (316, 55), (318, 61)], 52) := by decide +kernel
theorem d_RuleReader_codeOfComparison_72 : decode c_RuleReader_codeOfComparison 72 = .ok (.bipush (-28), 2) := by decide +kernel
theorem d_RuleReader_codeOfComparison_74 : decode c_RuleReader_codeOfComparison 74 = .ok (.ireturn, 1) := by decide +kernel
theorem d_RuleReader_codeOfComparison_75 : decode c_RuleReader_codeOfComparison 75 = .ok (.bipush (-29), 2) := by decide +kernel
theorem d_RuleReader_codeOfComparison_77 : decode c_RuleReader_codeOfComparison 77 = .ok (.ireturn, 1) := by decide +kernel
theorem d_RuleReader_codeOfComparison_78 : decode c_RuleReader_codeOfComparison 78 = .ok (.bipush (-30), 2) := by decide +kernel
theorem d_RuleReader_codeOfComparison_80 : decode c_RuleReader_codeOfComparison 80 = .ok (.ireturn, 1) := by decide +kernel
theorem d_RuleReader_codeOfComparison_81 : decode c_RuleReader_codeOfComparison 81 = .ok (.bipush (-31), 2) := by decide +kernel
theorem d_RuleReader_codeOfComparison_83 : decode c_RuleReader_codeOfComparison 83 = .ok (.ireturn, 1) := by decide +kernel
theorem d_RuleReader_codeOfComparison_84 : decode c_RuleReader_codeOfComparison 84 = .ok (.bipush (-32), 2) := by decide +kernel
theorem d_RuleReader_codeOfComparison_86 : decode c_RuleReader_codeOfComparison 86 = .ok (.ireturn, 1) := by decide +kernel
theorem d_RuleReader_codeOfComparison_87 : decode c_RuleReader_codeOfComparison 87 = .ok (.iconst 0, 1) := by decide +kernel
theorem d_RuleReader_codeOfComparison_88 : decode c_RuleReader_codeOfComparison 88 = .ok (.ireturn, 1) := by decide +kernel
abbrev c_RuleReader_codeOfTerm : ByteArray := prog_9_method_11_code
def y_RuleReader_codeOfTerm : MethodName := ⟨RX7, "codeOfTerm", "()I"⟩
theorem d_RuleReader_codeOfTerm_0 : decode c_RuleReader_codeOfTerm 0 = .ok (.aload_n 0, 1) := by decide +kernel
theorem d_RuleReader_codeOfTerm_1 : decode c_RuleReader_codeOfTerm 1 = .ok (.getfield 21, 3) := by decide +kernel
theorem d_RuleReader_codeOfTerm_4 : decode c_RuleReader_codeOfTerm 4 = .ok (.getfield 68, 3) := by decide +kernel
theorem d_RuleReader_codeOfTerm_7 : decode c_RuleReader_codeOfTerm 7 = .ok (.iconst 4, 1) := by decide +kernel
theorem d_RuleReader_codeOfTerm_8 : decode c_RuleReader_codeOfTerm 8 = .ok (.if_icmp .eq 5, 3) := by decide +kernel
theorem d_RuleReader_codeOfTerm_11 : decode c_RuleReader_codeOfTerm 11 = .ok (.iconst 0, 1) := by decide +kernel
theorem d_RuleReader_codeOfTerm_12 : decode c_RuleReader_codeOfTerm 12 = .ok (.ireturn, 1) := by decide +kernel
theorem d_RuleReader_codeOfTerm_13 : decode c_RuleReader_codeOfTerm 13 = .ok (.aload_n 0, 1) := by decide +kernel
theorem d_RuleReader_codeOfTerm_14 : decode c_RuleReader_codeOfTerm 14 = .ok (.getfield 21, 3) := by decide +kernel
theorem d_RuleReader_codeOfTerm_17 : decode c_RuleReader_codeOfTerm 17 = .ok (.getfield 99, 3) := by decide +kernel
theorem d_RuleReader_codeOfTerm_20 : decode c_RuleReader_codeOfTerm 20 = .ok (.lookupswitch 45 #[(37, 42), (42, 36), (47, 39)], 36) := by decide +kernel
theorem d_RuleReader_codeOfTerm_56 : decode c_RuleReader_codeOfTerm 56 = .ok (.bipush (-25), 2) := by decide +kernel
theorem d_RuleReader_codeOfTerm_58 : decode c_RuleReader_codeOfTerm 58 = .ok (.ireturn, 1) := by decide +kernel
theorem d_RuleReader_codeOfTerm_59 : decode c_RuleReader_codeOfTerm 59 = .ok (.bipush (-26), 2) := by decide +kernel
theorem d_RuleReader_codeOfTerm_61 : decode c_RuleReader_codeOfTerm 61 = .ok (.ireturn, 1) := by decide +kernel
theorem d_RuleReader_codeOfTerm_62 : decode c_RuleReader_codeOfTerm 62 = .ok (.bipush (-27), 2) := by decide +kernel
theorem d_RuleReader_codeOfTerm_64 : decode c_RuleReader_codeOfTerm 64 = .ok (.ireturn, 1) := by decide +kernel
theorem d_RuleReader_codeOfTerm_65 : decode c_RuleReader_codeOfTerm 65 = .ok (.iconst 0, 1) := by decide +kernel
theorem d_RuleReader_codeOfTerm_66 : decode c_RuleReader_codeOfTerm 66 = .ok (.ireturn, 1) := by decide +kernel
abbrev c_RuleReader_codeOfSum : ByteArray := prog_9_method_12_code
def y_RuleReader_codeOfSum : MethodName := ⟨RX7, "codeOfSum", "()I"⟩
theorem d_RuleReader_codeOfSum_0 : decode c_RuleReader_codeOfSum 0 = .ok (.aload_n 0, 1) := by decide +kernel
theorem d_RuleReader_codeOfSum_1 : decode c_RuleReader_codeOfSum 1 = .ok (.getfield 21, 3) := by decide +kernel
theorem d_RuleReader_codeOfSum_4 : decode c_RuleReader_codeOfSum 4 = .ok (.bipush 43, 2) := by decide +kernel
theorem d_RuleReader_codeOfSum_6 : decode c_RuleReader_codeOfSum 6 = .ok (.invokevirtual 80, 3) := by decide +kernel
theorem d_RuleReader_codeOfSum_9 : decode c_RuleReader_codeOfSum 9 = .ok (.ifCond .eq 6, 3) := by decide +kernel
theorem d_RuleReader_codeOfSum_12 : decode c_RuleReader_codeOfSum 12 = .ok (.bipush (-23), 2) := by decide +kernel
theorem d_RuleReader_codeOfSum_14 : decode c_RuleReader_codeOfSum 14 = .ok (.ireturn, 1) := by decide +kernel
theorem d_RuleReader_codeOfSum_15 : decode c_RuleReader_codeOfSum 15 = .ok (.aload_n 0, 1) := by decide +kernel
theorem d_RuleReader_codeOfSum_16 : decode c_RuleReader_codeOfSum 16 = .ok (.getfield 21, 3) := by decide +kernel
theorem d_RuleReader_codeOfSum_19 : decode c_RuleReader_codeOfSum 19 = .ok (.bipush 45, 2) := by decide +kernel
theorem d_RuleReader_codeOfSum_21 : decode c_RuleReader_codeOfSum 21 = .ok (.invokevirtual 80, 3) := by decide +kernel
theorem d_RuleReader_codeOfSum_24 : decode c_RuleReader_codeOfSum 24 = .ok (.ifCond .eq 8, 3) := by decide +kernel
theorem d_RuleReader_codeOfSum_27 : decode c_RuleReader_codeOfSum 27 = .ok (.bipush (-24), 2) := by decide +kernel
theorem d_RuleReader_codeOfSum_29 : decode c_RuleReader_codeOfSum 29 = .ok (.goto 4, 3) := by decide +kernel
theorem d_RuleReader_codeOfSum_32 : decode c_RuleReader_codeOfSum 32 = .ok (.iconst 0, 1) := by decide +kernel
theorem d_RuleReader_codeOfSum_33 : decode c_RuleReader_codeOfSum 33 = .ok (.ireturn, 1) := by decide +kernel
abbrev c_State_init : ByteArray := prog_10_method_1_code
def y_State_init : MethodName := ⟨RX8, "<init>", "()V"⟩
theorem d_State_init_0 : decode c_State_init 0 = .ok (.aload_n 0, 1) := by decide +kernel
theorem d_State_init_1 : decode c_State_init 1 = .ok (.invokespecial 3, 3) := by decide +kernel
theorem d_State_init_4 : decode c_State_init 4 = .ok (.aload_n 0, 1) := by decide +kernel
theorem d_State_init_5 : decode c_State_init 5 = .ok (.bipush 10, 2) := by decide +kernel
theorem d_State_init_7 : decode c_State_init 7 = .ok (.newarray .int, 2) := by decide +kernel
theorem d_State_init_9 : decode c_State_init 9 = .ok (.putfield 9, 3) := by decide +kernel
theorem d_State_init_12 : decode c_State_init 12 = .ok (.aload_n 0, 1) := by decide +kernel
theorem d_State_init_13 : decode c_State_init 13 = .ok (.bipush 10, 2) := by decide +kernel
theorem d_State_init_15 : decode c_State_init 15 = .ok (.newarray .int, 2) := by decide +kernel
theorem d_State_init_17 : decode c_State_init 17 = .ok (.putfield 15, 3) := by decide +kernel
theorem d_State_init_20 : decode c_State_init 20 = .ok (.aload_n 0, 1) := by decide +kernel
theorem d_State_init_21 : decode c_State_init 21 = .ok (.bipush 10, 2) := by decide +kernel
theorem d_State_init_23 : decode c_State_init 23 = .ok (.newarray .int, 2) := by decide +kernel
theorem d_State_init_25 : decode c_State_init 25 = .ok (.putfield 18, 3) := by decide +kernel
theorem d_State_init_28 : decode c_State_init 28 = .ok (.return_, 1) := by decide +kernel
abbrev c_State_copyFrom : ByteArray := prog_10_method_2_code
def y_State_copyFrom : MethodName := ⟨RX8, "copyFrom", "(LErrataRow$State;)V"⟩
theorem d_State_copyFrom_0 : decode c_State_copyFrom 0 = .ok (.aload_n 1, 1) := by decide +kernel
theorem d_State_copyFrom_1 : decode c_State_copyFrom 1 = .ok (.getfield 9, 3) := by decide +kernel
theorem d_State_copyFrom_4 : decode c_State_copyFrom 4 = .ok (.iconst 0, 1) := by decide +kernel
theorem d_State_copyFrom_5 : decode c_State_copyFrom 5 = .ok (.aload_n 0, 1) := by decide +kernel
theorem d_State_copyFrom_6 : decode c_State_copyFrom 6 = .ok (.getfield 9, 3) := by decide +kernel
theorem d_State_copyFrom_9 : decode c_State_copyFrom 9 = .ok (.iconst 0, 1) := by decide +kernel
theorem d_State_copyFrom_10 : decode c_State_copyFrom 10 = .ok (.bipush 10, 2) := by decide +kernel
theorem d_State_copyFrom_12 : decode c_State_copyFrom 12 = .ok (.invokestatic 21, 3) := by decide +kernel
theorem d_State_copyFrom_15 : decode c_State_copyFrom 15 = .ok (.aload_n 1, 1) := by decide +kernel
theorem d_State_copyFrom_16 : decode c_State_copyFrom 16 = .ok (.getfield 15, 3) := by decide +kernel
theorem d_State_copyFrom_19 : decode c_State_copyFrom 19 = .ok (.iconst 0, 1) := by decide +kernel
theorem d_State_copyFrom_20 : decode c_State_copyFrom 20 = .ok (.aload_n 0, 1) := by decide +kernel
theorem d_State_copyFrom_21 : decode c_State_copyFrom 21 = .ok (.getfield 15, 3) := by decide +kernel
theorem d_State_copyFrom_24 : decode c_State_copyFrom 24 = .ok (.iconst 0, 1) := by decide +kernel
theorem d_State_copyFrom_25 : decode c_State_copyFrom 25 = .ok (.bipush 10, 2) := by decide +kernel
theorem d_State_copyFrom_27 : decode c_State_copyFrom 27 = .ok (.invokestatic 21, 3) := by decide +kernel
theorem d_State_copyFrom_30 : decode c_State_copyFrom 30 = .ok (.aload_n 1, 1) := by decide +kernel
theorem d_State_copyFrom_31 : decode c_State_copyFrom 31 = .ok (.getfield 18, 3) := by decide +kernel
theorem d_State_copyFrom_34 : decode c_State_copyFrom 34 = .ok (.iconst 0, 1) := by decide +kernel
theorem d_State_copyFrom_35 : decode c_State_copyFrom 35 = .ok (.aload_n 0, 1) := by decide +kernel
theorem d_State_copyFrom_36 : decode c_State_copyFrom 36 = .ok (.getfield 18, 3) := by decide +kernel
theorem d_State_copyFrom_39 : decode c_State_copyFrom 39 = .ok (.iconst 0, 1) := by decide +kernel
theorem d_State_copyFrom_40 : decode c_State_copyFrom 40 = .ok (.bipush 10, 2) := by decide +kernel
theorem d_State_copyFrom_42 : decode c_State_copyFrom 42 = .ok (.invokestatic 21, 3) := by decide +kernel
theorem d_State_copyFrom_45 : decode c_State_copyFrom 45 = .ok (.aload_n 0, 1) := by decide +kernel
theorem d_State_copyFrom_46 : decode c_State_copyFrom 46 = .ok (.aload_n 1, 1) := by decide +kernel
theorem d_State_copyFrom_47 : decode c_State_copyFrom 47 = .ok (.getfield 27, 3) := by decide +kernel
theorem d_State_copyFrom_50 : decode c_State_copyFrom 50 = .ok (.putfield 27, 3) := by decide +kernel
theorem d_State_copyFrom_53 : decode c_State_copyFrom 53 = .ok (.aload_n 0, 1) := by decide +kernel
theorem d_State_copyFrom_54 : decode c_State_copyFrom 54 = .ok (.aload_n 1, 1) := by decide +kernel
theorem d_State_copyFrom_55 : decode c_State_copyFrom 55 = .ok (.getfield 31, 3) := by decide +kernel
theorem d_State_copyFrom_58 : decode c_State_copyFrom 58 = .ok (.putfield 31, 3) := by decide +kernel
theorem d_State_copyFrom_61 : decode c_State_copyFrom 61 = .ok (.aload_n 0, 1) := by decide +kernel
theorem d_State_copyFrom_62 : decode c_State_copyFrom 62 = .ok (.aload_n 1, 1) := by decide +kernel
theorem d_State_copyFrom_63 : decode c_State_copyFrom 63 = .ok (.getfield 34, 3) := by decide +kernel
theorem d_State_copyFrom_66 : decode c_State_copyFrom 66 = .ok (.putfield 34, 3) := by decide +kernel
theorem d_State_copyFrom_69 : decode c_State_copyFrom 69 = .ok (.return_, 1) := by decide +kernel
abbrev c_State_clear : ByteArray := prog_10_method_3_code
def y_State_clear : MethodName := ⟨RX8, "clear", "()V"⟩
theorem d_State_clear_0 : decode c_State_clear 0 = .ok (.aload_n 0, 1) := by decide +kernel
theorem d_State_clear_1 : decode c_State_clear 1 = .ok (.getfield 9, 3) := by decide +kernel
theorem d_State_clear_4 : decode c_State_clear 4 = .ok (.iconst 0, 1) := by decide +kernel
theorem d_State_clear_5 : decode c_State_clear 5 = .ok (.invokestatic 37, 3) := by decide +kernel
theorem d_State_clear_8 : decode c_State_clear 8 = .ok (.aload_n 0, 1) := by decide +kernel
theorem d_State_clear_9 : decode c_State_clear 9 = .ok (.getfield 15, 3) := by decide +kernel
theorem d_State_clear_12 : decode c_State_clear 12 = .ok (.iconst 0, 1) := by decide +kernel
theorem d_State_clear_13 : decode c_State_clear 13 = .ok (.invokestatic 37, 3) := by decide +kernel
theorem d_State_clear_16 : decode c_State_clear 16 = .ok (.aload_n 0, 1) := by decide +kernel
theorem d_State_clear_17 : decode c_State_clear 17 = .ok (.getfield 18, 3) := by decide +kernel
theorem d_State_clear_20 : decode c_State_clear 20 = .ok (.iconst 0, 1) := by decide +kernel
theorem d_State_clear_21 : decode c_State_clear 21 = .ok (.invokestatic 37, 3) := by decide +kernel
theorem d_State_clear_24 : decode c_State_clear 24 = .ok (.aload_n 0, 1) := by decide +kernel
theorem d_State_clear_25 : decode c_State_clear 25 = .ok (.iconst 0, 1) := by decide +kernel
theorem d_State_clear_26 : decode c_State_clear 26 = .ok (.putfield 27, 3) := by decide +kernel
theorem d_State_clear_29 : decode c_State_clear 29 = .ok (.aload_n 0, 1) := by decide +kernel
theorem d_State_clear_30 : decode c_State_clear 30 = .ok (.iconst 0, 1) := by decide +kernel
theorem d_State_clear_31 : decode c_State_clear 31 = .ok (.putfield 31, 3) := by decide +kernel
theorem d_State_clear_34 : decode c_State_clear 34 = .ok (.aload_n 0, 1) := by decide +kernel
theorem d_State_clear_35 : decode c_State_clear 35 = .ok (.iconst 0, 1) := by decide +kernel
theorem d_State_clear_36 : decode c_State_clear 36 = .ok (.putfield 34, 3) := by decide +kernel
theorem d_State_clear_39 : decode c_State_clear 39 = .ok (.return_, 1) := by decide +kernel
abbrev c_Tokens_init : ByteArray := prog_11_method_1_code
def y_Tokens_init : MethodName := ⟨RX9, "<init>", "()V"⟩
theorem d_Tokens_init_0 : decode c_Tokens_init 0 = .ok (.aload_n 0, 1) := by decide +kernel
theorem d_Tokens_init_1 : decode c_Tokens_init 1 = .ok (.invokespecial 3, 3) := by decide +kernel
theorem d_Tokens_init_4 : decode c_Tokens_init 4 = .ok (.aload_n 0, 1) := by decide +kernel
theorem d_Tokens_init_5 : decode c_Tokens_init 5 = .ok (.sipush 401, 3) := by decide +kernel
theorem d_Tokens_init_8 : decode c_Tokens_init 8 = .ok (.newarray .int, 2) := by decide +kernel
theorem d_Tokens_init_10 : decode c_Tokens_init 10 = .ok (.putfield 9, 3) := by decide +kernel
theorem d_Tokens_init_13 : decode c_Tokens_init 13 = .ok (.aload_n 0, 1) := by decide +kernel
theorem d_Tokens_init_14 : decode c_Tokens_init 14 = .ok (.sipush 401, 3) := by decide +kernel
theorem d_Tokens_init_17 : decode c_Tokens_init 17 = .ok (.newarray .int, 2) := by decide +kernel
theorem d_Tokens_init_19 : decode c_Tokens_init 19 = .ok (.putfield 15, 3) := by decide +kernel
theorem d_Tokens_init_22 : decode c_Tokens_init 22 = .ok (.aload_n 0, 1) := by decide +kernel
theorem d_Tokens_init_23 : decode c_Tokens_init 23 = .ok (.sipush 401, 3) := by decide +kernel
theorem d_Tokens_init_26 : decode c_Tokens_init 26 = .ok (.newarray .int, 2) := by decide +kernel
theorem d_Tokens_init_28 : decode c_Tokens_init 28 = .ok (.putfield 18, 3) := by decide +kernel
theorem d_Tokens_init_31 : decode c_Tokens_init 31 = .ok (.return_, 1) := by decide +kernel
abbrev c_Tokens_split : ByteArray := prog_11_method_2_code
def y_Tokens_split : MethodName := ⟨RX9, "split", "([II)V"⟩
theorem d_Tokens_split_0 : decode c_Tokens_split 0 = .ok (.aload_n 0, 1) := by decide +kernel
theorem d_Tokens_split_1 : decode c_Tokens_split 1 = .ok (.iconst 0, 1) := by decide +kernel
theorem d_Tokens_split_2 : decode c_Tokens_split 2 = .ok (.putfield 21, 3) := by decide +kernel
theorem d_Tokens_split_5 : decode c_Tokens_split 5 = .ok (.iconst 0, 1) := by decide +kernel
theorem d_Tokens_split_6 : decode c_Tokens_split 6 = .ok (.istore_n 3, 1) := by decide +kernel
theorem d_Tokens_split_7 : decode c_Tokens_split 7 = .ok (.iload_n 3, 1) := by decide +kernel
theorem d_Tokens_split_8 : decode c_Tokens_split 8 = .ok (.iload_n 2, 1) := by decide +kernel
theorem d_Tokens_split_9 : decode c_Tokens_split 9 = .ok (.if_icmp .ge 20, 3) := by decide +kernel
theorem d_Tokens_split_12 : decode c_Tokens_split 12 = .ok (.iload_n 3, 1) := by decide +kernel
theorem d_Tokens_split_13 : decode c_Tokens_split 13 = .ok (.iconst 1, 1) := by decide +kernel
theorem d_Tokens_split_14 : decode c_Tokens_split 14 = .ok (.iadd, 1) := by decide +kernel
theorem d_Tokens_split_15 : decode c_Tokens_split 15 = .ok (.aload_n 0, 1) := by decide +kernel
theorem d_Tokens_split_16 : decode c_Tokens_split 16 = .ok (.aload_n 1, 1) := by decide +kernel
theorem d_Tokens_split_17 : decode c_Tokens_split 17 = .ok (.iload_n 2, 1) := by decide +kernel
theorem d_Tokens_split_18 : decode c_Tokens_split 18 = .ok (.iload_n 3, 1) := by decide +kernel
theorem d_Tokens_split_19 : decode c_Tokens_split 19 = .ok (.invokevirtual 25, 3) := by decide +kernel
theorem d_Tokens_split_22 : decode c_Tokens_split 22 = .ok (.invokestatic 29, 3) := by decide +kernel
theorem d_Tokens_split_25 : decode c_Tokens_split 25 = .ok (.istore_n 3, 1) := by decide +kernel
theorem d_Tokens_split_26 : decode c_Tokens_split 26 = .ok (.goto (-19), 3) := by decide +kernel
theorem d_Tokens_split_29 : decode c_Tokens_split 29 = .ok (.aload_n 0, 1) := by decide +kernel
theorem d_Tokens_split_30 : decode c_Tokens_split 30 = .ok (.iconst 0, 1) := by decide +kernel
theorem d_Tokens_split_31 : decode c_Tokens_split 31 = .ok (.iconst 0, 1) := by decide +kernel
theorem d_Tokens_split_32 : decode c_Tokens_split 32 = .ok (.iload_n 2, 1) := by decide +kernel
theorem d_Tokens_split_33 : decode c_Tokens_split 33 = .ok (.invokevirtual 35, 3) := by decide +kernel
theorem d_Tokens_split_36 : decode c_Tokens_split 36 = .ok (.aload_n 0, 1) := by decide +kernel
theorem d_Tokens_split_37 : decode c_Tokens_split 37 = .ok (.iconst 0, 1) := by decide +kernel
theorem d_Tokens_split_38 : decode c_Tokens_split 38 = .ok (.putfield 39, 3) := by decide +kernel
theorem d_Tokens_split_41 : decode c_Tokens_split 41 = .ok (.aload_n 0, 1) := by decide +kernel
theorem d_Tokens_split_42 : decode c_Tokens_split 42 = .ok (.aload_n 0, 1) := by decide +kernel
theorem d_Tokens_split_43 : decode c_Tokens_split 43 = .ok (.getfield 9, 3) := by decide +kernel
theorem d_Tokens_split_46 : decode c_Tokens_split 46 = .ok (.iconst 0, 1) := by decide +kernel
theorem d_Tokens_split_47 : decode c_Tokens_split 47 = .ok (.iaload, 1) := by decide +kernel
theorem d_Tokens_split_48 : decode c_Tokens_split 48 = .ok (.putfield 42, 3) := by decide +kernel
theorem d_Tokens_split_51 : decode c_Tokens_split 51 = .ok (.aload_n 0, 1) := by decide +kernel
theorem d_Tokens_split_52 : decode c_Tokens_split 52 = .ok (.aload_n 0, 1) := by decide +kernel
theorem d_Tokens_split_53 : decode c_Tokens_split 53 = .ok (.getfield 15, 3) := by decide +kernel
theorem d_Tokens_split_56 : decode c_Tokens_split 56 = .ok (.iconst 0, 1) := by decide +kernel
theorem d_Tokens_split_57 : decode c_Tokens_split 57 = .ok (.iaload, 1) := by decide +kernel
theorem d_Tokens_split_58 : decode c_Tokens_split 58 = .ok (.putfield 45, 3) := by decide +kernel
theorem d_Tokens_split_61 : decode c_Tokens_split 61 = .ok (.aload_n 0, 1) := by decide +kernel
theorem d_Tokens_split_62 : decode c_Tokens_split 62 = .ok (.iconst 0, 1) := by decide +kernel
theorem d_Tokens_split_63 : decode c_Tokens_split 63 = .ok (.putfield 48, 3) := by decide +kernel
theorem d_Tokens_split_66 : decode c_Tokens_split 66 = .ok (.return_, 1) := by decide +kernel
