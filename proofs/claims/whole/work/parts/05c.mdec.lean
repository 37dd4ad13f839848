abbrev c12_isWrong : ByteArray := prog_14_method_50_code
def y12_isWrong : MethodName := ⟨RX12, "isWrong", "(I)Z"⟩
theorem d12_isWrong_0 : decode c12_isWrong 0 = .ok (.aload_n 0, 1) := by decide +kernel
theorem d12_isWrong_1 : decode c12_isWrong 1 = .ok (.getfield 39, 3) := by decide +kernel
theorem d12_isWrong_4 : decode c12_isWrong 4 = .ok (.bipush 13, 2) := by decide +kernel
theorem d12_isWrong_6 : decode c12_isWrong 6 = .ok (.iload_n 1, 1) := by decide +kernel
theorem d12_isWrong_7 : decode c12_isWrong 7 = .ok (.iadd, 1) := by decide +kernel
theorem d12_isWrong_8 : decode c12_isWrong 8 = .ok (.iaload, 1) := by decide +kernel
theorem d12_isWrong_9 : decode c12_isWrong 9 = .ok (.aload_n 0, 1) := by decide +kernel
theorem d12_isWrong_10 : decode c12_isWrong 10 = .ok (.getfield 39, 3) := by decide +kernel
theorem d12_isWrong_13 : decode c12_isWrong 13 = .ok (.bipush 43, 2) := by decide +kernel
theorem d12_isWrong_15 : decode c12_isWrong 15 = .ok (.iload_n 1, 1) := by decide +kernel
theorem d12_isWrong_16 : decode c12_isWrong 16 = .ok (.iadd, 1) := by decide +kernel
theorem d12_isWrong_17 : decode c12_isWrong 17 = .ok (.iaload, 1) := by decide +kernel
theorem d12_isWrong_18 : decode c12_isWrong 18 = .ok (.if_icmp .eq 7, 3) := by decide +kernel
theorem d12_isWrong_21 : decode c12_isWrong 21 = .ok (.iconst 1, 1) := by decide +kernel
theorem d12_isWrong_22 : decode c12_isWrong 22 = .ok (.goto 4, 3) := by decide +kernel
theorem d12_isWrong_25 : decode c12_isWrong 25 = .ok (.iconst 0, 1) := by decide +kernel
theorem d12_isWrong_26 : decode c12_isWrong 26 = .ok (.ireturn, 1) := by decide +kernel
abbrev c12_wrongOnes : ByteArray := prog_14_method_51_code
def y12_wrongOnes : MethodName := ⟨RX12, "wrongOnes", "()I"⟩
theorem d12_wrongOnes_0 : decode c12_wrongOnes 0 = .ok (.iconst 0, 1) := by decide +kernel
theorem d12_wrongOnes_1 : decode c12_wrongOnes 1 = .ok (.istore_n 1, 1) := by decide +kernel
theorem d12_wrongOnes_2 : decode c12_wrongOnes 2 = .ok (.iconst 0, 1) := by decide +kernel
theorem d12_wrongOnes_3 : decode c12_wrongOnes 3 = .ok (.istore_n 2, 1) := by decide +kernel
theorem d12_wrongOnes_4 : decode c12_wrongOnes 4 = .ok (.iload_n 2, 1) := by decide +kernel
theorem d12_wrongOnes_5 : decode c12_wrongOnes 5 = .ok (.aload_n 0, 1) := by decide +kernel
theorem d12_wrongOnes_6 : decode c12_wrongOnes 6 = .ok (.getfield 39, 3) := by decide +kernel
theorem d12_wrongOnes_9 : decode c12_wrongOnes 9 = .ok (.iconst 3, 1) := by decide +kernel
theorem d12_wrongOnes_10 : decode c12_wrongOnes 10 = .ok (.iaload, 1) := by decide +kernel
theorem d12_wrongOnes_11 : decode c12_wrongOnes 11 = .ok (.if_icmp .ge 27, 3) := by decide +kernel
theorem d12_wrongOnes_14 : decode c12_wrongOnes 14 = .ok (.iload_n 1, 1) := by decide +kernel
theorem d12_wrongOnes_15 : decode c12_wrongOnes 15 = .ok (.aload_n 0, 1) := by decide +kernel
theorem d12_wrongOnes_16 : decode c12_wrongOnes 16 = .ok (.iload_n 2, 1) := by decide +kernel
theorem d12_wrongOnes_17 : decode c12_wrongOnes 17 = .ok (.invokevirtual 296, 3) := by decide +kernel
theorem d12_wrongOnes_20 : decode c12_wrongOnes 20 = .ok (.ifCond .eq 9, 3) := by decide +kernel
theorem d12_wrongOnes_23 : decode c12_wrongOnes 23 = .ok (.iconst 1, 1) := by decide +kernel
theorem d12_wrongOnes_24 : decode c12_wrongOnes 24 = .ok (.iload_n 2, 1) := by decide +kernel
theorem d12_wrongOnes_25 : decode c12_wrongOnes 25 = .ok (.ishl, 1) := by decide +kernel
theorem d12_wrongOnes_26 : decode c12_wrongOnes 26 = .ok (.goto 4, 3) := by decide +kernel
theorem d12_wrongOnes_29 : decode c12_wrongOnes 29 = .ok (.iconst 0, 1) := by decide +kernel
theorem d12_wrongOnes_30 : decode c12_wrongOnes 30 = .ok (.ior, 1) := by decide +kernel
theorem d12_wrongOnes_31 : decode c12_wrongOnes 31 = .ok (.istore_n 1, 1) := by decide +kernel
theorem d12_wrongOnes_32 : decode c12_wrongOnes 32 = .ok (.iinc 2 1, 3) := by decide +kernel
theorem d12_wrongOnes_35 : decode c12_wrongOnes 35 = .ok (.goto (-31), 3) := by decide +kernel
theorem d12_wrongOnes_38 : decode c12_wrongOnes 38 = .ok (.iload_n 1, 1) := by decide +kernel
theorem d12_wrongOnes_39 : decode c12_wrongOnes 39 = .ok (.ireturn, 1) := by decide +kernel
abbrev c12_isLoose : ByteArray := prog_14_method_52_code
def y12_isLoose : MethodName := ⟨RX12, "isLoose", "(I)Z"⟩
theorem d12_isLoose_0 : decode c12_isLoose 0 = .ok (.aload_n 0, 1) := by decide +kernel
theorem d12_isLoose_1 : decode c12_isLoose 1 = .ok (.iload_n 1, 1) := by decide +kernel
theorem d12_isLoose_2 : decode c12_isLoose 2 = .ok (.invokevirtual 299, 3) := by decide +kernel
theorem d12_isLoose_5 : decode c12_isLoose 5 = .ok (.ifCond .eq 32, 3) := by decide +kernel
theorem d12_isLoose_8 : decode c12_isLoose 8 = .ok (.aload_n 0, 1) := by decide +kernel
theorem d12_isLoose_9 : decode c12_isLoose 9 = .ok (.iload_n 1, 1) := by decide +kernel
theorem d12_isLoose_10 : decode c12_isLoose 10 = .ok (.invokevirtual 296, 3) := by decide +kernel
theorem d12_isLoose_13 : decode c12_isLoose 13 = .ok (.ifCond .eq 24, 3) := by decide +kernel
theorem d12_isLoose_16 : decode c12_isLoose 16 = .ok (.aload_n 0, 1) := by decide +kernel
theorem d12_isLoose_17 : decode c12_isLoose 17 = .ok (.getfield 39, 3) := by decide +kernel
theorem d12_isLoose_20 : decode c12_isLoose 20 = .ok (.bipush 33, 2) := by decide +kernel
theorem d12_isLoose_22 : decode c12_isLoose 22 = .ok (.iload_n 1, 1) := by decide +kernel
theorem d12_isLoose_23 : decode c12_isLoose 23 = .ok (.iadd, 1) := by decide +kernel
theorem d12_isLoose_24 : decode c12_isLoose 24 = .ok (.iaload, 1) := by decide +kernel
theorem d12_isLoose_25 : decode c12_isLoose 25 = .ok (.aload_n 0, 1) := by decide +kernel
theorem d12_isLoose_26 : decode c12_isLoose 26 = .ok (.invokevirtual 302, 3) := by decide +kernel
theorem d12_isLoose_29 : decode c12_isLoose 29 = .ok (.iand, 1) := by decide +kernel
theorem d12_isLoose_30 : decode c12_isLoose 30 = .ok (.ifCond .ne 7, 3) := by decide +kernel
theorem d12_isLoose_33 : decode c12_isLoose 33 = .ok (.iconst 1, 1) := by decide +kernel
theorem d12_isLoose_34 : decode c12_isLoose 34 = .ok (.goto 4, 3) := by decide +kernel
theorem d12_isLoose_37 : decode c12_isLoose 37 = .ok (.iconst 0, 1) := by decide +kernel
theorem d12_isLoose_38 : decode c12_isLoose 38 = .ok (.ireturn, 1) := by decide +kernel
abbrev c12_looseOnes : ByteArray := prog_14_method_53_code
def y12_looseOnes : MethodName := ⟨RX12, "looseOnes", "()I"⟩
theorem d12_looseOnes_0 : decode c12_looseOnes 0 = .ok (.iconst 0, 1) := by decide +kernel
theorem d12_looseOnes_1 : decode c12_looseOnes 1 = .ok (.istore_n 1, 1) := by decide +kernel
theorem d12_looseOnes_2 : decode c12_looseOnes 2 = .ok (.iconst 0, 1) := by decide +kernel
theorem d12_looseOnes_3 : decode c12_looseOnes 3 = .ok (.istore_n 2, 1) := by decide +kernel
theorem d12_looseOnes_4 : decode c12_looseOnes 4 = .ok (.iload_n 2, 1) := by decide +kernel
theorem d12_looseOnes_5 : decode c12_looseOnes 5 = .ok (.aload_n 0, 1) := by decide +kernel
theorem d12_looseOnes_6 : decode c12_looseOnes 6 = .ok (.getfield 39, 3) := by decide +kernel
theorem d12_looseOnes_9 : decode c12_looseOnes 9 = .ok (.iconst 3, 1) := by decide +kernel
theorem d12_looseOnes_10 : decode c12_looseOnes 10 = .ok (.iaload, 1) := by decide +kernel
theorem d12_looseOnes_11 : decode c12_looseOnes 11 = .ok (.if_icmp .ge 27, 3) := by decide +kernel
theorem d12_looseOnes_14 : decode c12_looseOnes 14 = .ok (.iload_n 1, 1) := by decide +kernel
theorem d12_looseOnes_15 : decode c12_looseOnes 15 = .ok (.aload_n 0, 1) := by decide +kernel
theorem d12_looseOnes_16 : decode c12_looseOnes 16 = .ok (.iload_n 2, 1) := by decide +kernel
theorem d12_looseOnes_17 : decode c12_looseOnes 17 = .ok (.invokevirtual 305, 3) := by decide +kernel
theorem d12_looseOnes_20 : decode c12_looseOnes 20 = .ok (.ifCond .eq 9, 3) := by decide +kernel
theorem d12_looseOnes_23 : decode c12_looseOnes 23 = .ok (.iconst 1, 1) := by decide +kernel
theorem d12_looseOnes_24 : decode c12_looseOnes 24 = .ok (.iload_n 2, 1) := by decide +kernel
theorem d12_looseOnes_25 : decode c12_looseOnes 25 = .ok (.ishl, 1) := by decide +kernel
theorem d12_looseOnes_26 : decode c12_looseOnes 26 = .ok (.goto 4, 3) := by decide +kernel
theorem d12_looseOnes_29 : decode c12_looseOnes 29 = .ok (.iconst 0, 1) := by decide +kernel
theorem d12_looseOnes_30 : decode c12_looseOnes 30 = .ok (.ior, 1) := by decide +kernel
theorem d12_looseOnes_31 : decode c12_looseOnes 31 = .ok (.istore_n 1, 1) := by decide +kernel
theorem d12_looseOnes_32 : decode c12_looseOnes 32 = .ok (.iinc 2 1, 3) := by decide +kernel
theorem d12_looseOnes_35 : decode c12_looseOnes 35 = .ok (.goto (-31), 3) := by decide +kernel
theorem d12_looseOnes_38 : decode c12_looseOnes 38 = .ok (.iload_n 1, 1) := by decide +kernel
theorem d12_looseOnes_39 : decode c12_looseOnes 39 = .ok (.ireturn, 1) := by decide +kernel
abbrev c12_fromOn : ByteArray := prog_14_method_54_code
def y12_fromOn : MethodName := ⟨RX12, "fromOn", "(I)I"⟩
theorem d12_fromOn_0 : decode c12_fromOn 0 = .ok (.aload_n 0, 1) := by decide +kernel
theorem d12_fromOn_1 : decode c12_fromOn 1 = .ok (.getfield 39, 3) := by decide +kernel
theorem d12_fromOn_4 : decode c12_fromOn 4 = .ok (.bipush 73, 2) := by decide +kernel
theorem d12_fromOn_6 : decode c12_fromOn 6 = .ok (.iconst 2, 1) := by decide +kernel
theorem d12_fromOn_7 : decode c12_fromOn 7 = .ok (.iload_n 1, 1) := by decide +kernel
theorem d12_fromOn_8 : decode c12_fromOn 8 = .ok (.aload_n 0, 1) := by decide +kernel
theorem d12_fromOn_9 : decode c12_fromOn 9 = .ok (.invokevirtual 308, 3) := by decide +kernel
theorem d12_fromOn_12 : decode c12_fromOn 12 = .ok (.irem, 1) := by decide +kernel
theorem d12_fromOn_13 : decode c12_fromOn 13 = .ok (.imul, 1) := by decide +kernel
theorem d12_fromOn_14 : decode c12_fromOn 14 = .ok (.iadd, 1) := by decide +kernel
theorem d12_fromOn_15 : decode c12_fromOn 15 = .ok (.iaload, 1) := by decide +kernel
theorem d12_fromOn_16 : decode c12_fromOn 16 = .ok (.ireturn, 1) := by decide +kernel
abbrev c12_toOn : ByteArray := prog_14_method_55_code
def y12_toOn : MethodName := ⟨RX12, "toOn", "(I)I"⟩
theorem d12_toOn_0 : decode c12_toOn 0 = .ok (.aload_n 0, 1) := by decide +kernel
theorem d12_toOn_1 : decode c12_toOn 1 = .ok (.getfield 39, 3) := by decide +kernel
theorem d12_toOn_4 : decode c12_toOn 4 = .ok (.bipush 73, 2) := by decide +kernel
theorem d12_toOn_6 : decode c12_toOn 6 = .ok (.iconst 2, 1) := by decide +kernel
theorem d12_toOn_7 : decode c12_toOn 7 = .ok (.iload_n 1, 1) := by decide +kernel
theorem d12_toOn_8 : decode c12_toOn 8 = .ok (.aload_n 0, 1) := by decide +kernel
theorem d12_toOn_9 : decode c12_toOn 9 = .ok (.invokevirtual 308, 3) := by decide +kernel
theorem d12_toOn_12 : decode c12_toOn 12 = .ok (.irem, 1) := by decide +kernel
theorem d12_toOn_13 : decode c12_toOn 13 = .ok (.imul, 1) := by decide +kernel
theorem d12_toOn_14 : decode c12_toOn 14 = .ok (.iadd, 1) := by decide +kernel
theorem d12_toOn_15 : decode c12_toOn 15 = .ok (.iconst 1, 1) := by decide +kernel
theorem d12_toOn_16 : decode c12_toOn 16 = .ok (.iadd, 1) := by decide +kernel
theorem d12_toOn_17 : decode c12_toOn 17 = .ok (.iaload, 1) := by decide +kernel
theorem d12_toOn_18 : decode c12_toOn 18 = .ok (.ireturn, 1) := by decide +kernel
abbrev c12_begins : ByteArray := prog_14_method_56_code
def y12_begins : MethodName := ⟨RX12, "begins", "()V"⟩
theorem d12_begins_0 : decode c12_begins 0 = .ok (.aload_n 0, 1) := by decide +kernel
theorem d12_begins_1 : decode c12_begins 1 = .ok (.getfield 39, 3) := by decide +kernel
theorem d12_begins_4 : decode c12_begins 4 = .ok (.bipush 10, 2) := by decide +kernel
theorem d12_begins_6 : decode c12_begins 6 = .ok (.iconst 0, 1) := by decide +kernel
theorem d12_begins_7 : decode c12_begins 7 = .ok (.iastore, 1) := by decide +kernel
theorem d12_begins_8 : decode c12_begins 8 = .ok (.aload_n 0, 1) := by decide +kernel
theorem d12_begins_9 : decode c12_begins 9 = .ok (.getfield 39, 3) := by decide +kernel
theorem d12_begins_12 : decode c12_begins 12 = .ok (.bipush 11, 2) := by decide +kernel
theorem d12_begins_14 : decode c12_begins 14 = .ok (.aload_n 0, 1) := by decide +kernel
theorem d12_begins_15 : decode c12_begins 15 = .ok (.getfield 39, 3) := by decide +kernel
theorem d12_begins_18 : decode c12_begins 18 = .ok (.bipush 97, 2) := by decide +kernel
theorem d12_begins_20 : decode c12_begins 20 = .ok (.iaload, 1) := by decide +kernel
theorem d12_begins_21 : decode c12_begins 21 = .ok (.iastore, 1) := by decide +kernel
theorem d12_begins_22 : decode c12_begins 22 = .ok (.aload_n 0, 1) := by decide +kernel
theorem d12_begins_23 : decode c12_begins 23 = .ok (.getfield 39, 3) := by decide +kernel
theorem d12_begins_26 : decode c12_begins 26 = .ok (.bipush 12, 2) := by decide +kernel
theorem d12_begins_28 : decode c12_begins 28 = .ok (.iconst 0, 1) := by decide +kernel
theorem d12_begins_29 : decode c12_begins 29 = .ok (.iastore, 1) := by decide +kernel
theorem d12_begins_30 : decode c12_begins 30 = .ok (.iconst 0, 1) := by decide +kernel
theorem d12_begins_31 : decode c12_begins 31 = .ok (.istore_n 1, 1) := by decide +kernel
theorem d12_begins_32 : decode c12_begins 32 = .ok (.iload_n 1, 1) := by decide +kernel
theorem d12_begins_33 : decode c12_begins 33 = .ok (.bipush 10, 2) := by decide +kernel
theorem d12_begins_35 : decode c12_begins 35 = .ok (.if_icmp .ge 55, 3) := by decide +kernel
theorem d12_begins_38 : decode c12_begins 38 = .ok (.aload_n 0, 1) := by decide +kernel
theorem d12_begins_39 : decode c12_begins 39 = .ok (.getfield 39, 3) := by decide +kernel
theorem d12_begins_42 : decode c12_begins 42 = .ok (.bipush 13, 2) := by decide +kernel
theorem d12_begins_44 : decode c12_begins 44 = .ok (.iload_n 1, 1) := by decide +kernel
theorem d12_begins_45 : decode c12_begins 45 = .ok (.iadd, 1) := by decide +kernel
theorem d12_begins_46 : decode c12_begins 46 = .ok (.aload_n 0, 1) := by decide +kernel
theorem d12_begins_47 : decode c12_begins 47 = .ok (.getfield 39, 3) := by decide +kernel
theorem d12_begins_50 : decode c12_begins 50 = .ok (.bipush 53, 2) := by decide +kernel
theorem d12_begins_52 : decode c12_begins 52 = .ok (.iload_n 1, 1) := by decide +kernel
theorem d12_begins_53 : decode c12_begins 53 = .ok (.iadd, 1) := by decide +kernel
theorem d12_begins_54 : decode c12_begins 54 = .ok (.iaload, 1) := by decide +kernel
theorem d12_begins_55 : decode c12_begins 55 = .ok (.iastore, 1) := by decide +kernel
theorem d12_begins_56 : decode c12_begins 56 = .ok (.aload_n 0, 1) := by decide +kernel
theorem d12_begins_57 : decode c12_begins 57 = .ok (.getfield 39, 3) := by decide +kernel
theorem d12_begins_60 : decode c12_begins 60 = .ok (.bipush 23, 2) := by decide +kernel
theorem d12_begins_62 : decode c12_begins 62 = .ok (.iload_n 1, 1) := by decide +kernel
theorem d12_begins_63 : decode c12_begins 63 = .ok (.iadd, 1) := by decide +kernel
theorem d12_begins_64 : decode c12_begins 64 = .ok (.iconst 0, 1) := by decide +kernel
theorem d12_begins_65 : decode c12_begins 65 = .ok (.iastore, 1) := by decide +kernel
theorem d12_begins_66 : decode c12_begins 66 = .ok (.aload_n 0, 1) := by decide +kernel
theorem d12_begins_67 : decode c12_begins 67 = .ok (.getfield 39, 3) := by decide +kernel
theorem d12_begins_70 : decode c12_begins 70 = .ok (.bipush 33, 2) := by decide +kernel
theorem d12_begins_72 : decode c12_begins 72 = .ok (.iload_n 1, 1) := by decide +kernel
theorem d12_begins_73 : decode c12_begins 73 = .ok (.iadd, 1) := by decide +kernel
theorem d12_begins_74 : decode c12_begins 74 = .ok (.aload_n 0, 1) := by decide +kernel
theorem d12_begins_75 : decode c12_begins 75 = .ok (.getfield 39, 3) := by decide +kernel
theorem d12_begins_78 : decode c12_begins 78 = .ok (.bipush 63, 2) := by decide +kernel
theorem d12_begins_80 : decode c12_begins 80 = .ok (.iload_n 1, 1) := by decide +kernel
theorem d12_begins_81 : decode c12_begins 81 = .ok (.iadd, 1) := by decide +kernel
theorem d12_begins_82 : decode c12_begins 82 = .ok (.iaload, 1) := by decide +kernel
theorem d12_begins_83 : decode c12_begins 83 = .ok (.iastore, 1) := by decide +kernel
theorem d12_begins_84 : decode c12_begins 84 = .ok (.iinc 1 1, 3) := by decide +kernel
theorem d12_begins_87 : decode c12_begins 87 = .ok (.goto (-55), 3) := by decide +kernel
theorem d12_begins_90 : decode c12_begins 90 = .ok (.return_, 1) := by decide +kernel
abbrev c12_force : ByteArray := prog_14_method_57_code
def y12_force : MethodName := ⟨RX12, "force", "(I)I"⟩
theorem d12_force_0 : decode c12_force 0 = .ok (.iload_n 1, 1) := by decide +kernel
theorem d12_force_1 : decode c12_force 1 = .ok (.iconst (-1), 1) := by decide +kernel
theorem d12_force_2 : decode c12_force 2 = .ok (.if_icmp .eq 14, 3) := by decide +kernel
theorem d12_force_5 : decode c12_force 5 = .ok (.aload_n 0, 1) := by decide +kernel
theorem d12_force_6 : decode c12_force 6 = .ok (.iload_n 1, 1) := by decide +kernel
theorem d12_force_7 : decode c12_force 7 = .ok (.invokevirtual 311, 3) := by decide +kernel
theorem d12_force_10 : decode c12_force 10 = .ok (.ifCond .ne 6, 3) := by decide +kernel
theorem d12_force_13 : decode c12_force 13 = .ok (.bipush (-2), 2) := by decide +kernel
theorem d12_force_15 : decode c12_force 15 = .ok (.ireturn, 1) := by decide +kernel
theorem d12_force_16 : decode c12_force 16 = .ok (.aload_n 0, 1) := by decide +kernel
theorem d12_force_17 : decode c12_force 17 = .ok (.getfield 42, 3) := by decide +kernel
theorem d12_force_20 : decode c12_force 20 = .ok (.istore_n 2, 1) := by decide +kernel
theorem d12_force_21 : decode c12_force 21 = .ok (.aload_n 0, 1) := by decide +kernel
theorem d12_force_22 : decode c12_force 22 = .ok (.iload_n 1, 1) := by decide +kernel
theorem d12_force_23 : decode c12_force 23 = .ok (.putfield 42, 3) := by decide +kernel
theorem d12_force_26 : decode c12_force 26 = .ok (.iload_n 2, 1) := by decide +kernel
theorem d12_force_27 : decode c12_force 27 = .ok (.ireturn, 1) := by decide +kernel
abbrev c12_letter : ByteArray := prog_14_method_58_code
def y12_letter : MethodName := ⟨RX12, "letter", "(II)I"⟩
theorem d12_letter_0 : decode c12_letter 0 = .ok (.aload_n 0, 1) := by decide +kernel
theorem d12_letter_1 : decode c12_letter 1 = .ok (.iload_n 1, 1) := by decide +kernel
theorem d12_letter_2 : decode c12_letter 2 = .ok (.invokevirtual 299, 3) := by decide +kernel
theorem d12_letter_5 : decode c12_letter 5 = .ok (.ifCond .ne 5, 3) := by decide +kernel
theorem d12_letter_8 : decode c12_letter 8 = .ok (.iconst (-1), 1) := by decide +kernel
theorem d12_letter_9 : decode c12_letter 9 = .ok (.ireturn, 1) := by decide +kernel
theorem d12_letter_10 : decode c12_letter 10 = .ok (.iload_n 2, 1) := by decide +kernel
theorem d12_letter_11 : decode c12_letter 11 = .ok (.tableswitch 69 0 3 #[29, 39, 49, 59], 29) := by decide +kernel
theorem d12_letter_40 : decode c12_letter 40 = .ok (.aload_n 0, 1) := by decide +kernel
theorem d12_letter_41 : decode c12_letter 41 = .ok (.getfield 39, 3) := by decide +kernel
theorem d12_letter_44 : decode c12_letter 44 = .ok (.bipush 13, 2) := by decide +kernel
theorem d12_letter_46 : decode c12_letter 46 = .ok (.iload_n 1, 1) := by decide +kernel
theorem d12_letter_47 : decode c12_letter 47 = .ok (.iadd, 1) := by decide +kernel
theorem d12_letter_48 : decode c12_letter 48 = .ok (.iaload, 1) := by decide +kernel
theorem d12_letter_49 : decode c12_letter 49 = .ok (.ireturn, 1) := by decide +kernel
theorem d12_letter_50 : decode c12_letter 50 = .ok (.aload_n 0, 1) := by decide +kernel
theorem d12_letter_51 : decode c12_letter 51 = .ok (.getfield 39, 3) := by decide +kernel
theorem d12_letter_54 : decode c12_letter 54 = .ok (.bipush 43, 2) := by decide +kernel
theorem d12_letter_56 : decode c12_letter 56 = .ok (.iload_n 1, 1) := by decide +kernel
theorem d12_letter_57 : decode c12_letter 57 = .ok (.iadd, 1) := by decide +kernel
theorem d12_letter_58 : decode c12_letter 58 = .ok (.iaload, 1) := by decide +kernel
theorem d12_letter_59 : decode c12_letter 59 = .ok (.ireturn, 1) := by decide +kernel
theorem d12_letter_60 : decode c12_letter 60 = .ok (.aload_n 0, 1) := by decide +kernel
theorem d12_letter_61 : decode c12_letter 61 = .ok (.getfield 39, 3) := by decide +kernel
theorem d12_letter_64 : decode c12_letter 64 = .ok (.bipush 23, 2) := by decide +kernel
theorem d12_letter_66 : decode c12_letter 66 = .ok (.iload_n 1, 1) := by decide +kernel
theorem d12_letter_67 : decode c12_letter 67 = .ok (.iadd, 1) := by decide +kernel
theorem d12_letter_68 : decode c12_letter 68 = .ok (.iaload, 1) := by decide +kernel
theorem d12_letter_69 : decode c12_letter 69 = .ok (.ireturn, 1) := by decide +kernel
theorem d12_letter_70 : decode c12_letter 70 = .ok (.aload_n 0, 1) := by decide +kernel
theorem d12_letter_71 : decode c12_letter 71 = .ok (.getfield 39, 3) := by decide +kernel
theorem d12_letter_74 : decode c12_letter 74 = .ok (.bipush 33, 2) := by decide +kernel
theorem d12_letter_76 : decode c12_letter 76 = .ok (.iload_n 1, 1) := by decide +kernel
theorem d12_letter_77 : decode c12_letter 77 = .ok (.iadd, 1) := by decide +kernel
theorem d12_letter_78 : decode c12_letter 78 = .ok (.iaload, 1) := by decide +kernel
theorem d12_letter_79 : decode c12_letter 79 = .ok (.ireturn, 1) := by decide +kernel
theorem d12_letter_80 : decode c12_letter 80 = .ok (.iconst (-1), 1) := by decide +kernel
theorem d12_letter_81 : decode c12_letter 81 = .ok (.ireturn, 1) := by decide +kernel
abbrev c12_habit : ByteArray := prog_14_method_59_code
def y12_habit : MethodName := ⟨RX12, "habit", "(II)I"⟩
theorem d12_habit_0 : decode c12_habit 0 = .ok (.iload_n 1, 1) := by decide +kernel
theorem d12_habit_1 : decode c12_habit 1 = .ok (.ifCond .lt 37, 3) := by decide +kernel
theorem d12_habit_4 : decode c12_habit 4 = .ok (.iload_n 1, 1) := by decide +kernel
theorem d12_habit_5 : decode c12_habit 5 = .ok (.aload_n 0, 1) := by decide +kernel
theorem d12_habit_6 : decode c12_habit 6 = .ok (.invokevirtual 308, 3) := by decide +kernel
theorem d12_habit_9 : decode c12_habit 9 = .ok (.if_icmp .ge 29, 3) := by decide +kernel
theorem d12_habit_12 : decode c12_habit 12 = .ok (.iload_n 2, 1) := by decide +kernel
theorem d12_habit_13 : decode c12_habit 13 = .ok (.i2l, 1) := by decide +kernel
theorem d12_habit_14 : decode c12_habit 14 = .ok (.lconst 0, 1) := by decide +kernel
theorem d12_habit_15 : decode c12_habit 15 = .ok (.lconst 1, 1) := by decide +kernel
theorem d12_habit_16 : decode c12_habit 16 = .ok (.invokestatic 127, 3) := by decide +kernel
theorem d12_habit_19 : decode c12_habit 19 = .ok (.ifCond .eq 19, 3) := by decide +kernel
theorem d12_habit_22 : decode c12_habit 22 = .ok (.aload_n 0, 1) := by decide +kernel
theorem d12_habit_23 : decode c12_habit 23 = .ok (.getfield 39, 3) := by decide +kernel
theorem d12_habit_26 : decode c12_habit 26 = .ok (.bipush 73, 2) := by decide +kernel
theorem d12_habit_28 : decode c12_habit 28 = .ok (.iconst 2, 1) := by decide +kernel
theorem d12_habit_29 : decode c12_habit 29 = .ok (.iload_n 1, 1) := by decide +kernel
theorem d12_habit_30 : decode c12_habit 30 = .ok (.imul, 1) := by decide +kernel
theorem d12_habit_31 : decode c12_habit 31 = .ok (.iadd, 1) := by decide +kernel
theorem d12_habit_32 : decode c12_habit 32 = .ok (.iload_n 2, 1) := by decide +kernel
theorem d12_habit_33 : decode c12_habit 33 = .ok (.iadd, 1) := by decide +kernel
theorem d12_habit_34 : decode c12_habit 34 = .ok (.iaload, 1) := by decide +kernel
theorem d12_habit_35 : decode c12_habit 35 = .ok (.goto 4, 3) := by decide +kernel
theorem d12_habit_38 : decode c12_habit 38 = .ok (.iconst (-1), 1) := by decide +kernel
theorem d12_habit_39 : decode c12_habit 39 = .ok (.ireturn, 1) := by decide +kernel
abbrev c12_summedBy : ByteArray := prog_14_method_60_code
def y12_summedBy : MethodName := ⟨RX12, "summedBy", "(I)J"⟩
theorem d12_summedBy_0 : decode c12_summedBy 0 = .ok (.iconst 0, 1) := by decide +kernel
theorem d12_summedBy_1 : decode c12_summedBy 1 = .ok (.istore_n 2, 1) := by decide +kernel
theorem d12_summedBy_2 : decode c12_summedBy 2 = .ok (.iload_n 2, 1) := by decide +kernel
theorem d12_summedBy_3 : decode c12_summedBy 3 = .ok (.aload_n 0, 1) := by decide +kernel
theorem d12_summedBy_4 : decode c12_summedBy 4 = .ok (.getfield 23, 3) := by decide +kernel
theorem d12_summedBy_7 : decode c12_summedBy 7 = .ok (.iload_n 1, 1) := by decide +kernel
theorem d12_summedBy_8 : decode c12_summedBy 8 = .ok (.iaload, 1) := by decide +kernel
theorem d12_summedBy_9 : decode c12_summedBy 9 = .ok (.if_icmp .ge 75, 3) := by decide +kernel
theorem d12_summedBy_12 : decode c12_summedBy 12 = .ok (.bipush 48, 2) := by decide +kernel
theorem d12_summedBy_14 : decode c12_summedBy 14 = .ok (.iload_n 1, 1) := by decide +kernel
theorem d12_summedBy_15 : decode c12_summedBy 15 = .ok (.imul, 1) := by decide +kernel
theorem d12_summedBy_16 : decode c12_summedBy 16 = .ok (.iconst 4, 1) := by decide +kernel
theorem d12_summedBy_17 : decode c12_summedBy 17 = .ok (.iload_n 2, 1) := by decide +kernel
theorem d12_summedBy_18 : decode c12_summedBy 18 = .ok (.imul, 1) := by decide +kernel
theorem d12_summedBy_19 : decode c12_summedBy 19 = .ok (.iadd, 1) := by decide +kernel
theorem d12_summedBy_20 : decode c12_summedBy 20 = .ok (.istore_n 3, 1) := by decide +kernel
theorem d12_summedBy_21 : decode c12_summedBy 21 = .ok (.aload_n 0, 1) := by decide +kernel
theorem d12_summedBy_22 : decode c12_summedBy 22 = .ok (.getfield 20, 3) := by decide +kernel
theorem d12_summedBy_25 : decode c12_summedBy 25 = .ok (.iload_n 3, 1) := by decide +kernel
theorem d12_summedBy_26 : decode c12_summedBy 26 = .ok (.iconst 2, 1) := by decide +kernel
theorem d12_summedBy_27 : decode c12_summedBy 27 = .ok (.iadd, 1) := by decide +kernel
theorem d12_summedBy_28 : decode c12_summedBy 28 = .ok (.iaload, 1) := by decide +kernel
theorem d12_summedBy_29 : decode c12_summedBy 29 = .ok (.ifCond .lt 29, 3) := by decide +kernel
theorem d12_summedBy_32 : decode c12_summedBy 32 = .ok (.aload_n 0, 1) := by decide +kernel
theorem d12_summedBy_33 : decode c12_summedBy 33 = .ok (.iload_n 1, 1) := by decide +kernel
theorem d12_summedBy_34 : decode c12_summedBy 34 = .ok (.aload_n 0, 1) := by decide +kernel
theorem d12_summedBy_35 : decode c12_summedBy 35 = .ok (.getfield 20, 3) := by decide +kernel
theorem d12_summedBy_38 : decode c12_summedBy 38 = .ok (.iload_n 3, 1) := by decide +kernel
theorem d12_summedBy_39 : decode c12_summedBy 39 = .ok (.iconst 2, 1) := by decide +kernel
theorem d12_summedBy_40 : decode c12_summedBy 40 = .ok (.iadd, 1) := by decide +kernel
theorem d12_summedBy_41 : decode c12_summedBy 41 = .ok (.iaload, 1) := by decide +kernel
theorem d12_summedBy_42 : decode c12_summedBy 42 = .ok (.aload_n 0, 1) := by decide +kernel
theorem d12_summedBy_43 : decode c12_summedBy 43 = .ok (.getfield 20, 3) := by decide +kernel
theorem d12_summedBy_46 : decode c12_summedBy 46 = .ok (.iload_n 3, 1) := by decide +kernel
theorem d12_summedBy_47 : decode c12_summedBy 47 = .ok (.iconst 3, 1) := by decide +kernel
theorem d12_summedBy_48 : decode c12_summedBy 48 = .ok (.iadd, 1) := by decide +kernel
theorem d12_summedBy_49 : decode c12_summedBy 49 = .ok (.iaload, 1) := by decide +kernel
theorem d12_summedBy_50 : decode c12_summedBy 50 = .ok (.invokevirtual 314, 3) := by decide +kernel
theorem d12_summedBy_53 : decode c12_summedBy 53 = .ok (.lconst 1, 1) := by decide +kernel
theorem d12_summedBy_54 : decode c12_summedBy 54 = .ok (.lcmp, 1) := by decide +kernel
theorem d12_summedBy_55 : decode c12_summedBy 55 = .ok (.ifCond .ne 23, 3) := by decide +kernel
theorem d12_summedBy_58 : decode c12_summedBy 58 = .ok (.aload_n 0, 1) := by decide +kernel
theorem d12_summedBy_59 : decode c12_summedBy 59 = .ok (.iload_n 1, 1) := by decide +kernel
theorem d12_summedBy_60 : decode c12_summedBy 60 = .ok (.aload_n 0, 1) := by decide +kernel
theorem d12_summedBy_61 : decode c12_summedBy 61 = .ok (.getfield 20, 3) := by decide +kernel
theorem d12_summedBy_64 : decode c12_summedBy 64 = .ok (.iload_n 3, 1) := by decide +kernel
theorem d12_summedBy_65 : decode c12_summedBy 65 = .ok (.iaload, 1) := by decide +kernel
theorem d12_summedBy_66 : decode c12_summedBy 66 = .ok (.aload_n 0, 1) := by decide +kernel
theorem d12_summedBy_67 : decode c12_summedBy 67 = .ok (.getfield 20, 3) := by decide +kernel
theorem d12_summedBy_70 : decode c12_summedBy 70 = .ok (.iload_n 3, 1) := by decide +kernel
theorem d12_summedBy_71 : decode c12_summedBy 71 = .ok (.iconst 1, 1) := by decide +kernel
theorem d12_summedBy_72 : decode c12_summedBy 72 = .ok (.iadd, 1) := by decide +kernel
theorem d12_summedBy_73 : decode c12_summedBy 73 = .ok (.iaload, 1) := by decide +kernel
theorem d12_summedBy_74 : decode c12_summedBy 74 = .ok (.invokevirtual 314, 3) := by decide +kernel
theorem d12_summedBy_77 : decode c12_summedBy 77 = .ok (.lreturn, 1) := by decide +kernel
theorem d12_summedBy_78 : decode c12_summedBy 78 = .ok (.iinc 2 1, 3) := by decide +kernel
theorem d12_summedBy_81 : decode c12_summedBy 81 = .ok (.goto (-79), 3) := by decide +kernel
theorem d12_summedBy_84 : decode c12_summedBy 84 = .ok (.lconst 0, 1) := by decide +kernel
theorem d12_summedBy_85 : decode c12_summedBy 85 = .ok (.lreturn, 1) := by decide +kernel
abbrev c12_sumOf : ByteArray := prog_14_method_61_code
def y12_sumOf : MethodName := ⟨RX12, "sumOf", "(I)J"⟩
theorem d12_sumOf_0 : decode c12_sumOf 0 = .ok (.iconst 0, 1) := by decide +kernel
theorem d12_sumOf_1 : decode c12_sumOf 1 = .ok (.istore_n 2, 1) := by decide +kernel
theorem d12_sumOf_2 : decode c12_sumOf 2 = .ok (.iconst 0, 1) := by decide +kernel
theorem d12_sumOf_3 : decode c12_sumOf 3 = .ok (.istore_n 3, 1) := by decide +kernel
theorem d12_sumOf_4 : decode c12_sumOf 4 = .ok (.iload_n 3, 1) := by decide +kernel
theorem d12_sumOf_5 : decode c12_sumOf 5 = .ok (.aload_n 0, 1) := by decide +kernel
theorem d12_sumOf_6 : decode c12_sumOf 6 = .ok (.getfield 39, 3) := by decide +kernel
theorem d12_sumOf_9 : decode c12_sumOf 9 = .ok (.iconst 3, 1) := by decide +kernel
theorem d12_sumOf_10 : decode c12_sumOf 10 = .ok (.iaload, 1) := by decide +kernel
theorem d12_sumOf_11 : decode c12_sumOf 11 = .ok (.if_icmp .ge 41, 3) := by decide +kernel
theorem d12_sumOf_14 : decode c12_sumOf 14 = .ok (.iload_n 2, 1) := by decide +kernel
theorem d12_sumOf_15 : decode c12_sumOf 15 = .ok (.aload_n 0, 1) := by decide +kernel
theorem d12_sumOf_16 : decode c12_sumOf 16 = .ok (.iload_n 3, 1) := by decide +kernel
theorem d12_sumOf_17 : decode c12_sumOf 17 = .ok (.invokevirtual 296, 3) := by decide +kernel
theorem d12_sumOf_20 : decode c12_sumOf 20 = .ok (.ifCond .eq 23, 3) := by decide +kernel
theorem d12_sumOf_23 : decode c12_sumOf 23 = .ok (.aload_n 0, 1) := by decide +kernel
theorem d12_sumOf_24 : decode c12_sumOf 24 = .ok (.getfield 39, 3) := by decide +kernel
theorem d12_sumOf_27 : decode c12_sumOf 27 = .ok (.bipush 33, 2) := by decide +kernel
theorem d12_sumOf_29 : decode c12_sumOf 29 = .ok (.iload_n 3, 1) := by decide +kernel
theorem d12_sumOf_30 : decode c12_sumOf 30 = .ok (.iadd, 1) := by decide +kernel
theorem d12_sumOf_31 : decode c12_sumOf 31 = .ok (.iaload, 1) := by decide +kernel
theorem d12_sumOf_32 : decode c12_sumOf 32 = .ok (.iload_n 1, 1) := by decide +kernel
theorem d12_sumOf_33 : decode c12_sumOf 33 = .ok (.invokestatic 318, 3) := by decide +kernel
theorem d12_sumOf_36 : decode c12_sumOf 36 = .ok (.ifCond .eq 7, 3) := by decide +kernel
theorem d12_sumOf_39 : decode c12_sumOf 39 = .ok (.iconst 1, 1) := by decide +kernel
theorem d12_sumOf_40 : decode c12_sumOf 40 = .ok (.goto 4, 3) := by decide +kernel
theorem d12_sumOf_43 : decode c12_sumOf 43 = .ok (.iconst 0, 1) := by decide +kernel
theorem d12_sumOf_44 : decode c12_sumOf 44 = .ok (.iadd, 1) := by decide +kernel
theorem d12_sumOf_45 : decode c12_sumOf 45 = .ok (.istore_n 2, 1) := by decide +kernel
theorem d12_sumOf_46 : decode c12_sumOf 46 = .ok (.iinc 3 1, 3) := by decide +kernel
theorem d12_sumOf_49 : decode c12_sumOf 49 = .ok (.goto (-45), 3) := by decide +kernel
theorem d12_sumOf_52 : decode c12_sumOf 52 = .ok (.aload_n 0, 1) := by decide +kernel
theorem d12_sumOf_53 : decode c12_sumOf 53 = .ok (.getfield 36, 3) := by decide +kernel
theorem d12_sumOf_56 : decode c12_sumOf 56 = .ok (.iconst 0, 1) := by decide +kernel
theorem d12_sumOf_57 : decode c12_sumOf 57 = .ok (.iload_n 1, 1) := by decide +kernel
theorem d12_sumOf_58 : decode c12_sumOf 58 = .ok (.i2l, 1) := by decide +kernel
theorem d12_sumOf_59 : decode c12_sumOf 59 = .ok (.lastore, 1) := by decide +kernel
theorem d12_sumOf_60 : decode c12_sumOf 60 = .ok (.aload_n 0, 1) := by decide +kernel
theorem d12_sumOf_61 : decode c12_sumOf 61 = .ok (.getfield 36, 3) := by decide +kernel
theorem d12_sumOf_64 : decode c12_sumOf 64 = .ok (.iconst 1, 1) := by decide +kernel
theorem d12_sumOf_65 : decode c12_sumOf 65 = .ok (.aload_n 0, 1) := by decide +kernel
theorem d12_sumOf_66 : decode c12_sumOf 66 = .ok (.getfield 39, 3) := by decide +kernel
theorem d12_sumOf_69 : decode c12_sumOf 69 = .ok (.bipush 13, 2) := by decide +kernel
theorem d12_sumOf_71 : decode c12_sumOf 71 = .ok (.iload_n 1, 1) := by decide +kernel
theorem d12_sumOf_72 : decode c12_sumOf 72 = .ok (.iadd, 1) := by decide +kernel
theorem d12_sumOf_73 : decode c12_sumOf 73 = .ok (.iaload, 1) := by decide +kernel
theorem d12_sumOf_74 : decode c12_sumOf 74 = .ok (.i2l, 1) := by decide +kernel
theorem d12_sumOf_75 : decode c12_sumOf 75 = .ok (.lastore, 1) := by decide +kernel
theorem d12_sumOf_76 : decode c12_sumOf 76 = .ok (.aload_n 0, 1) := by decide +kernel
theorem d12_sumOf_77 : decode c12_sumOf 77 = .ok (.getfield 36, 3) := by decide +kernel
theorem d12_sumOf_80 : decode c12_sumOf 80 = .ok (.iconst 2, 1) := by decide +kernel
theorem d12_sumOf_81 : decode c12_sumOf 81 = .ok (.aload_n 0, 1) := by decide +kernel
theorem d12_sumOf_82 : decode c12_sumOf 82 = .ok (.getfield 39, 3) := by decide +kernel
theorem d12_sumOf_85 : decode c12_sumOf 85 = .ok (.bipush 43, 2) := by decide +kernel
theorem d12_sumOf_87 : decode c12_sumOf 87 = .ok (.iload_n 1, 1) := by decide +kernel
theorem d12_sumOf_88 : decode c12_sumOf 88 = .ok (.iadd, 1) := by decide +kernel
theorem d12_sumOf_89 : decode c12_sumOf 89 = .ok (.iaload, 1) := by decide +kernel
theorem d12_sumOf_90 : decode c12_sumOf 90 = .ok (.i2l, 1) := by decide +kernel
theorem d12_sumOf_91 : decode c12_sumOf 91 = .ok (.lastore, 1) := by decide +kernel
theorem d12_sumOf_92 : decode c12_sumOf 92 = .ok (.aload_n 0, 1) := by decide +kernel
theorem d12_sumOf_93 : decode c12_sumOf 93 = .ok (.getfield 36, 3) := by decide +kernel
theorem d12_sumOf_96 : decode c12_sumOf 96 = .ok (.iconst 3, 1) := by decide +kernel
theorem d12_sumOf_97 : decode c12_sumOf 97 = .ok (.iload_n 2, 1) := by decide +kernel
theorem d12_sumOf_98 : decode c12_sumOf 98 = .ok (.i2l, 1) := by decide +kernel
theorem d12_sumOf_99 : decode c12_sumOf 99 = .ok (.lastore, 1) := by decide +kernel
theorem d12_sumOf_100 : decode c12_sumOf 100 = .ok (.aload_n 0, 1) := by decide +kernel
theorem d12_sumOf_101 : decode c12_sumOf 101 = .ok (.getfield 36, 3) := by decide +kernel
theorem d12_sumOf_104 : decode c12_sumOf 104 = .ok (.iconst 4, 1) := by decide +kernel
theorem d12_sumOf_105 : decode c12_sumOf 105 = .ok (.aload_n 0, 1) := by decide +kernel
theorem d12_sumOf_106 : decode c12_sumOf 106 = .ok (.invokevirtual 321, 3) := by decide +kernel
theorem d12_sumOf_109 : decode c12_sumOf 109 = .ok (.invokestatic 324, 3) := by decide +kernel
theorem d12_sumOf_112 : decode c12_sumOf 112 = .ok (.i2l, 1) := by decide +kernel
theorem d12_sumOf_113 : decode c12_sumOf 113 = .ok (.lastore, 1) := by decide +kernel
theorem d12_sumOf_114 : decode c12_sumOf 114 = .ok (.aload_n 0, 1) := by decide +kernel
theorem d12_sumOf_115 : decode c12_sumOf 115 = .ok (.getfield 36, 3) := by decide +kernel
theorem d12_sumOf_118 : decode c12_sumOf 118 = .ok (.iconst 5, 1) := by decide +kernel
theorem d12_sumOf_119 : decode c12_sumOf 119 = .ok (.aload_n 0, 1) := by decide +kernel
theorem d12_sumOf_120 : decode c12_sumOf 120 = .ok (.invokevirtual 302, 3) := by decide +kernel
theorem d12_sumOf_123 : decode c12_sumOf 123 = .ok (.invokestatic 324, 3) := by decide +kernel
theorem d12_sumOf_126 : decode c12_sumOf 126 = .ok (.i2l, 1) := by decide +kernel
theorem d12_sumOf_127 : decode c12_sumOf 127 = .ok (.lastore, 1) := by decide +kernel
theorem d12_sumOf_128 : decode c12_sumOf 128 = .ok (.aload_n 0, 1) := by decide +kernel
theorem d12_sumOf_129 : decode c12_sumOf 129 = .ok (.getfield 36, 3) := by decide +kernel
theorem d12_sumOf_132 : decode c12_sumOf 132 = .ok (.bipush 6, 2) := by decide +kernel
theorem d12_sumOf_134 : decode c12_sumOf 134 = .ok (.aload_n 0, 1) := by decide +kernel
theorem d12_sumOf_135 : decode c12_sumOf 135 = .ok (.getfield 39, 3) := by decide +kernel
theorem d12_sumOf_138 : decode c12_sumOf 138 = .ok (.bipush 23, 2) := by decide +kernel
theorem d12_sumOf_140 : decode c12_sumOf 140 = .ok (.iload_n 1, 1) := by decide +kernel
theorem d12_sumOf_141 : decode c12_sumOf 141 = .ok (.iadd, 1) := by decide +kernel
theorem d12_sumOf_142 : decode c12_sumOf 142 = .ok (.iaload, 1) := by decide +kernel
theorem d12_sumOf_143 : decode c12_sumOf 143 = .ok (.i2l, 1) := by decide +kernel
theorem d12_sumOf_144 : decode c12_sumOf 144 = .ok (.lastore, 1) := by decide +kernel
theorem d12_sumOf_145 : decode c12_sumOf 145 = .ok (.aload_n 0, 1) := by decide +kernel
theorem d12_sumOf_146 : decode c12_sumOf 146 = .ok (.getfield 36, 3) := by decide +kernel
theorem d12_sumOf_149 : decode c12_sumOf 149 = .ok (.bipush 7, 2) := by decide +kernel
theorem d12_sumOf_151 : decode c12_sumOf 151 = .ok (.aload_n 0, 1) := by decide +kernel
theorem d12_sumOf_152 : decode c12_sumOf 152 = .ok (.getfield 39, 3) := by decide +kernel
theorem d12_sumOf_155 : decode c12_sumOf 155 = .ok (.bipush 11, 2) := by decide +kernel
theorem d12_sumOf_157 : decode c12_sumOf 157 = .ok (.iaload, 1) := by decide +kernel
theorem d12_sumOf_158 : decode c12_sumOf 158 = .ok (.i2l, 1) := by decide +kernel
theorem d12_sumOf_159 : decode c12_sumOf 159 = .ok (.lastore, 1) := by decide +kernel
theorem d12_sumOf_160 : decode c12_sumOf 160 = .ok (.aload_n 0, 1) := by decide +kernel
theorem d12_sumOf_161 : decode c12_sumOf 161 = .ok (.getfield 36, 3) := by decide +kernel
theorem d12_sumOf_164 : decode c12_sumOf 164 = .ok (.bipush 8, 2) := by decide +kernel
theorem d12_sumOf_166 : decode c12_sumOf 166 = .ok (.aload_n 0, 1) := by decide +kernel
theorem d12_sumOf_167 : decode c12_sumOf 167 = .ok (.getfield 39, 3) := by decide +kernel
theorem d12_sumOf_170 : decode c12_sumOf 170 = .ok (.bipush 12, 2) := by decide +kernel
theorem d12_sumOf_172 : decode c12_sumOf 172 = .ok (.iaload, 1) := by decide +kernel
theorem d12_sumOf_173 : decode c12_sumOf 173 = .ok (.i2l, 1) := by decide +kernel
theorem d12_sumOf_174 : decode c12_sumOf 174 = .ok (.lastore, 1) := by decide +kernel
theorem d12_sumOf_175 : decode c12_sumOf 175 = .ok (.aload_n 0, 1) := by decide +kernel
theorem d12_sumOf_176 : decode c12_sumOf 176 = .ok (.getfield 36, 3) := by decide +kernel
theorem d12_sumOf_179 : decode c12_sumOf 179 = .ok (.bipush 9, 2) := by decide +kernel
theorem d12_sumOf_181 : decode c12_sumOf 181 = .ok (.aload_n 0, 1) := by decide +kernel
theorem d12_sumOf_182 : decode c12_sumOf 182 = .ok (.aload_n 0, 1) := by decide +kernel
theorem d12_sumOf_183 : decode c12_sumOf 183 = .ok (.getfield 39, 3) := by decide +kernel
theorem d12_sumOf_186 : decode c12_sumOf 186 = .ok (.bipush 10, 2) := by decide +kernel
theorem d12_sumOf_188 : decode c12_sumOf 188 = .ok (.iaload, 1) := by decide +kernel
theorem d12_sumOf_189 : decode c12_sumOf 189 = .ok (.invokevirtual 327, 3) := by decide +kernel
theorem d12_sumOf_192 : decode c12_sumOf 192 = .ok (.i2l, 1) := by decide +kernel
theorem d12_sumOf_193 : decode c12_sumOf 193 = .ok (.lastore, 1) := by decide +kernel
theorem d12_sumOf_194 : decode c12_sumOf 194 = .ok (.aload_n 0, 1) := by decide +kernel
theorem d12_sumOf_195 : decode c12_sumOf 195 = .ok (.getfield 36, 3) := by decide +kernel
theorem d12_sumOf_198 : decode c12_sumOf 198 = .ok (.bipush 10, 2) := by decide +kernel
theorem d12_sumOf_200 : decode c12_sumOf 200 = .ok (.aload_n 0, 1) := by decide +kernel
theorem d12_sumOf_201 : decode c12_sumOf 201 = .ok (.aload_n 0, 1) := by decide +kernel
theorem d12_sumOf_202 : decode c12_sumOf 202 = .ok (.getfield 39, 3) := by decide +kernel
theorem d12_sumOf_205 : decode c12_sumOf 205 = .ok (.bipush 10, 2) := by decide +kernel
theorem d12_sumOf_207 : decode c12_sumOf 207 = .ok (.iaload, 1) := by decide +kernel
theorem d12_sumOf_208 : decode c12_sumOf 208 = .ok (.invokevirtual 330, 3) := by decide +kernel
theorem d12_sumOf_211 : decode c12_sumOf 211 = .ok (.i2l, 1) := by decide +kernel
theorem d12_sumOf_212 : decode c12_sumOf 212 = .ok (.lastore, 1) := by decide +kernel
theorem d12_sumOf_213 : decode c12_sumOf 213 = .ok (.aload_n 0, 1) := by decide +kernel
theorem d12_sumOf_214 : decode c12_sumOf 214 = .ok (.getfield 36, 3) := by decide +kernel
theorem d12_sumOf_217 : decode c12_sumOf 217 = .ok (.bipush 11, 2) := by decide +kernel
theorem d12_sumOf_219 : decode c12_sumOf 219 = .ok (.aload_n 0, 1) := by decide +kernel
theorem d12_sumOf_220 : decode c12_sumOf 220 = .ok (.getfield 39, 3) := by decide +kernel
theorem d12_sumOf_223 : decode c12_sumOf 223 = .ok (.bipush 10, 2) := by decide +kernel
theorem d12_sumOf_225 : decode c12_sumOf 225 = .ok (.iaload, 1) := by decide +kernel
theorem d12_sumOf_226 : decode c12_sumOf 226 = .ok (.i2l, 1) := by decide +kernel
theorem d12_sumOf_227 : decode c12_sumOf 227 = .ok (.lastore, 1) := by decide +kernel
theorem d12_sumOf_228 : decode c12_sumOf 228 = .ok (.aload_n 0, 1) := by decide +kernel
theorem d12_sumOf_229 : decode c12_sumOf 229 = .ok (.aload_n 0, 1) := by decide +kernel
theorem d12_sumOf_230 : decode c12_sumOf 230 = .ok (.getfield 42, 3) := by decide +kernel
theorem d12_sumOf_233 : decode c12_sumOf 233 = .ok (.invokevirtual 333, 3) := by decide +kernel
theorem d12_sumOf_236 : decode c12_sumOf 236 = .ok (.lreturn, 1) := by decide +kernel
abbrev c12_choice : ByteArray := prog_14_method_62_code
def y12_choice : MethodName := ⟨RX12, "choice", "()I"⟩
theorem d12_choice_0 : decode c12_choice 0 = .ok (.iconst (-1), 1) := by decide +kernel
theorem d12_choice_1 : decode c12_choice 1 = .ok (.istore_n 1, 1) := by decide +kernel
theorem d12_choice_2 : decode c12_choice 2 = .ok (.lconst 0, 1) := by decide +kernel
theorem d12_choice_3 : decode c12_choice 3 = .ok (.lstore_n 2, 1) := by decide +kernel
theorem d12_choice_4 : decode c12_choice 4 = .ok (.iconst 0, 1) := by decide +kernel
theorem d12_choice_5 : decode c12_choice 5 = .ok (.istore 4, 2) := by decide +kernel
theorem d12_choice_7 : decode c12_choice 7 = .ok (.iload 4, 2) := by decide +kernel
theorem d12_choice_9 : decode c12_choice 9 = .ok (.aload_n 0, 1) := by decide +kernel
theorem d12_choice_10 : decode c12_choice 10 = .ok (.getfield 39, 3) := by decide +kernel
theorem d12_choice_13 : decode c12_choice 13 = .ok (.iconst 3, 1) := by decide +kernel
theorem d12_choice_14 : decode c12_choice 14 = .ok (.iaload, 1) := by decide +kernel
theorem d12_choice_15 : decode c12_choice 15 = .ok (.if_icmp .ge 56, 3) := by decide +kernel
theorem d12_choice_18 : decode c12_choice 18 = .ok (.aload_n 0, 1) := by decide +kernel
theorem d12_choice_19 : decode c12_choice 19 = .ok (.iload 4, 2) := by decide +kernel
theorem d12_choice_21 : decode c12_choice 21 = .ok (.invokevirtual 305, 3) := by decide +kernel
theorem d12_choice_24 : decode c12_choice 24 = .ok (.ifCond .ne 6, 3) := by decide +kernel
theorem d12_choice_27 : decode c12_choice 27 = .ok (.goto 38, 3) := by decide +kernel
theorem d12_choice_30 : decode c12_choice 30 = .ok (.aload_n 0, 1) := by decide +kernel
theorem d12_choice_31 : decode c12_choice 31 = .ok (.getfield 42, 3) := by decide +kernel
theorem d12_choice_34 : decode c12_choice 34 = .ok (.ifCond .ge 7, 3) := by decide +kernel
theorem d12_choice_37 : decode c12_choice 37 = .ok (.lconst 1, 1) := by decide +kernel
theorem d12_choice_38 : decode c12_choice 38 = .ok (.goto 9, 3) := by decide +kernel
theorem d12_choice_41 : decode c12_choice 41 = .ok (.aload_n 0, 1) := by decide +kernel
theorem d12_choice_42 : decode c12_choice 42 = .ok (.iload 4, 2) := by decide +kernel
theorem d12_choice_44 : decode c12_choice 44 = .ok (.invokevirtual 337, 3) := by decide +kernel
theorem d12_choice_47 : decode c12_choice 47 = .ok (.lstore 5, 2) := by decide +kernel
theorem d12_choice_49 : decode c12_choice 49 = .ok (.lload 5, 2) := by decide +kernel
theorem d12_choice_51 : decode c12_choice 51 = .ok (.lload_n 2, 1) := by decide +kernel
theorem d12_choice_52 : decode c12_choice 52 = .ok (.lcmp, 1) := by decide +kernel
theorem d12_choice_53 : decode c12_choice 53 = .ok (.ifCond .gt 6, 3) := by decide +kernel
theorem d12_choice_56 : decode c12_choice 56 = .ok (.goto 9, 3) := by decide +kernel
theorem d12_choice_59 : decode c12_choice 59 = .ok (.iload 4, 2) := by decide +kernel
theorem d12_choice_61 : decode c12_choice 61 = .ok (.istore_n 1, 1) := by decide +kernel
theorem d12_choice_62 : decode c12_choice 62 = .ok (.lload 5, 2) := by decide +kernel
theorem d12_choice_64 : decode c12_choice 64 = .ok (.lstore_n 2, 1) := by decide +kernel
theorem d12_choice_65 : decode c12_choice 65 = .ok (.iinc 4 1, 3) := by decide +kernel
theorem d12_choice_68 : decode c12_choice 68 = .ok (.goto (-61), 3) := by decide +kernel
theorem d12_choice_71 : decode c12_choice 71 = .ok (.iload_n 1, 1) := by decide +kernel
theorem d12_choice_72 : decode c12_choice 72 = .ok (.ireturn, 1) := by decide +kernel
abbrev c12_slipsBy : ByteArray := prog_14_method_63_code
def y12_slipsBy : MethodName := ⟨RX12, "slipsBy", "(I)V"⟩
theorem d12_slipsBy_0 : decode c12_slipsBy 0 = .ok (.aload_n 0, 1) := by decide +kernel
theorem d12_slipsBy_1 : decode c12_slipsBy 1 = .ok (.aload_n 0, 1) := by decide +kernel
theorem d12_slipsBy_2 : decode c12_slipsBy 2 = .ok (.getfield 39, 3) := by decide +kernel
theorem d12_slipsBy_5 : decode c12_slipsBy 5 = .ok (.bipush 10, 2) := by decide +kernel
theorem d12_slipsBy_7 : decode c12_slipsBy 7 = .ok (.iaload, 1) := by decide +kernel
theorem d12_slipsBy_8 : decode c12_slipsBy 8 = .ok (.invokevirtual 327, 3) := by decide +kernel
theorem d12_slipsBy_11 : decode c12_slipsBy 11 = .ok (.istore_n 2, 1) := by decide +kernel
theorem d12_slipsBy_12 : decode c12_slipsBy 12 = .ok (.aload_n 0, 1) := by decide +kernel
theorem d12_slipsBy_13 : decode c12_slipsBy 13 = .ok (.getfield 39, 3) := by decide +kernel
theorem d12_slipsBy_16 : decode c12_slipsBy 16 = .ok (.iconst 2, 1) := by decide +kernel
theorem d12_slipsBy_17 : decode c12_slipsBy 17 = .ok (.iaload, 1) := by decide +kernel
theorem d12_slipsBy_18 : decode c12_slipsBy 18 = .ok (.ifCond .le 25, 3) := by decide +kernel
theorem d12_slipsBy_21 : decode c12_slipsBy 21 = .ok (.aload_n 0, 1) := by decide +kernel
theorem d12_slipsBy_22 : decode c12_slipsBy 22 = .ok (.getfield 39, 3) := by decide +kernel
theorem d12_slipsBy_25 : decode c12_slipsBy 25 = .ok (.bipush 10, 2) := by decide +kernel
theorem d12_slipsBy_27 : decode c12_slipsBy 27 = .ok (.iaload, 1) := by decide +kernel
theorem d12_slipsBy_28 : decode c12_slipsBy 28 = .ok (.aload_n 0, 1) := by decide +kernel
theorem d12_slipsBy_29 : decode c12_slipsBy 29 = .ok (.getfield 39, 3) := by decide +kernel
theorem d12_slipsBy_32 : decode c12_slipsBy 32 = .ok (.iconst 2, 1) := by decide +kernel
theorem d12_slipsBy_33 : decode c12_slipsBy 33 = .ok (.iaload, 1) := by decide +kernel
theorem d12_slipsBy_34 : decode c12_slipsBy 34 = .ok (.irem, 1) := by decide +kernel
theorem d12_slipsBy_35 : decode c12_slipsBy 35 = .ok (.aload_n 0, 1) := by decide +kernel
theorem d12_slipsBy_36 : decode c12_slipsBy 36 = .ok (.getfield 46, 3) := by decide +kernel
theorem d12_slipsBy_39 : decode c12_slipsBy 39 = .ok (.if_icmp .ne 4, 3) := by decide +kernel
theorem d12_slipsBy_42 : decode c12_slipsBy 42 = .ok (.return_, 1) := by decide +kernel
theorem d12_slipsBy_43 : decode c12_slipsBy 43 = .ok (.iconst 0, 1) := by decide +kernel
theorem d12_slipsBy_44 : decode c12_slipsBy 44 = .ok (.istore_n 3, 1) := by decide +kernel
theorem d12_slipsBy_45 : decode c12_slipsBy 45 = .ok (.iload_n 3, 1) := by decide +kernel
theorem d12_slipsBy_46 : decode c12_slipsBy 46 = .ok (.aload_n 0, 1) := by decide +kernel
theorem d12_slipsBy_47 : decode c12_slipsBy 47 = .ok (.getfield 39, 3) := by decide +kernel
theorem d12_slipsBy_50 : decode c12_slipsBy 50 = .ok (.iconst 3, 1) := by decide +kernel
theorem d12_slipsBy_51 : decode c12_slipsBy 51 = .ok (.iaload, 1) := by decide +kernel
theorem d12_slipsBy_52 : decode c12_slipsBy 52 = .ok (.if_icmp .ge 51, 3) := by decide +kernel
theorem d12_slipsBy_55 : decode c12_slipsBy 55 = .ok (.iload_n 3, 1) := by decide +kernel
theorem d12_slipsBy_56 : decode c12_slipsBy 56 = .ok (.iload_n 1, 1) := by decide +kernel
theorem d12_slipsBy_57 : decode c12_slipsBy 57 = .ok (.if_icmp .eq 40, 3) := by decide +kernel
theorem d12_slipsBy_60 : decode c12_slipsBy 60 = .ok (.aload_n 0, 1) := by decide +kernel
theorem d12_slipsBy_61 : decode c12_slipsBy 61 = .ok (.getfield 39, 3) := by decide +kernel
theorem d12_slipsBy_64 : decode c12_slipsBy 64 = .ok (.bipush 13, 2) := by decide +kernel
theorem d12_slipsBy_66 : decode c12_slipsBy 66 = .ok (.iload_n 3, 1) := by decide +kernel
theorem d12_slipsBy_67 : decode c12_slipsBy 67 = .ok (.iadd, 1) := by decide +kernel
theorem d12_slipsBy_68 : decode c12_slipsBy 68 = .ok (.iaload, 1) := by decide +kernel
theorem d12_slipsBy_69 : decode c12_slipsBy 69 = .ok (.iload_n 2, 1) := by decide +kernel
theorem d12_slipsBy_70 : decode c12_slipsBy 70 = .ok (.if_icmp .eq 6, 3) := by decide +kernel
theorem d12_slipsBy_73 : decode c12_slipsBy 73 = .ok (.goto 24, 3) := by decide +kernel
theorem d12_slipsBy_76 : decode c12_slipsBy 76 = .ok (.aload_n 0, 1) := by decide +kernel
theorem d12_slipsBy_77 : decode c12_slipsBy 77 = .ok (.getfield 39, 3) := by decide +kernel
theorem d12_slipsBy_80 : decode c12_slipsBy 80 = .ok (.bipush 13, 2) := by decide +kernel
theorem d12_slipsBy_82 : decode c12_slipsBy 82 = .ok (.iload_n 3, 1) := by decide +kernel
theorem d12_slipsBy_83 : decode c12_slipsBy 83 = .ok (.iadd, 1) := by decide +kernel
theorem d12_slipsBy_84 : decode c12_slipsBy 84 = .ok (.aload_n 0, 1) := by decide +kernel
theorem d12_slipsBy_85 : decode c12_slipsBy 85 = .ok (.aload_n 0, 1) := by decide +kernel
theorem d12_slipsBy_86 : decode c12_slipsBy 86 = .ok (.getfield 39, 3) := by decide +kernel
theorem d12_slipsBy_89 : decode c12_slipsBy 89 = .ok (.bipush 10, 2) := by decide +kernel
theorem d12_slipsBy_91 : decode c12_slipsBy 91 = .ok (.iaload, 1) := by decide +kernel
theorem d12_slipsBy_92 : decode c12_slipsBy 92 = .ok (.invokevirtual 330, 3) := by decide +kernel
theorem d12_slipsBy_95 : decode c12_slipsBy 95 = .ok (.iastore, 1) := by decide +kernel
theorem d12_slipsBy_96 : decode c12_slipsBy 96 = .ok (.return_, 1) := by decide +kernel
theorem d12_slipsBy_97 : decode c12_slipsBy 97 = .ok (.iinc 3 1, 3) := by decide +kernel
theorem d12_slipsBy_100 : decode c12_slipsBy 100 = .ok (.goto (-55), 3) := by decide +kernel
theorem d12_slipsBy_103 : decode c12_slipsBy 103 = .ok (.return_, 1) := by decide +kernel
abbrev c12_pays : ByteArray := prog_14_method_64_code
def y12_pays : MethodName := ⟨RX12, "pays", "()V"⟩
theorem d12_pays_0 : decode c12_pays 0 = .ok (.aload_n 0, 1) := by decide +kernel
theorem d12_pays_1 : decode c12_pays 1 = .ok (.iconst 0, 1) := by decide +kernel
theorem d12_pays_2 : decode c12_pays 2 = .ok (.putfield 340, 3) := by decide +kernel
theorem d12_pays_5 : decode c12_pays 5 = .ok (.aload_n 0, 1) := by decide +kernel
theorem d12_pays_6 : decode c12_pays 6 = .ok (.iconst 0, 1) := by decide +kernel
theorem d12_pays_7 : decode c12_pays 7 = .ok (.putfield 343, 3) := by decide +kernel
theorem d12_pays_10 : decode c12_pays 10 = .ok (.iconst 0, 1) := by decide +kernel
theorem d12_pays_11 : decode c12_pays 11 = .ok (.istore_n 1, 1) := by decide +kernel
theorem d12_pays_12 : decode c12_pays 12 = .ok (.iload_n 1, 1) := by decide +kernel
theorem d12_pays_13 : decode c12_pays 13 = .ok (.aload_n 0, 1) := by decide +kernel
theorem d12_pays_14 : decode c12_pays 14 = .ok (.getfield 39, 3) := by decide +kernel
theorem d12_pays_17 : decode c12_pays 17 = .ok (.iconst 3, 1) := by decide +kernel
theorem d12_pays_18 : decode c12_pays 18 = .ok (.iaload, 1) := by decide +kernel
theorem d12_pays_19 : decode c12_pays 19 = .ok (.if_icmp .ge 131, 3) := by decide +kernel
theorem d12_pays_22 : decode c12_pays 22 = .ok (.aload_n 0, 1) := by decide +kernel
theorem d12_pays_23 : decode c12_pays 23 = .ok (.iload_n 1, 1) := by decide +kernel
theorem d12_pays_24 : decode c12_pays 24 = .ok (.invokevirtual 296, 3) := by decide +kernel
theorem d12_pays_27 : decode c12_pays 27 = .ok (.ifCond .ne 6, 3) := by decide +kernel
theorem d12_pays_30 : decode c12_pays 30 = .ok (.goto 114, 3) := by decide +kernel
theorem d12_pays_33 : decode c12_pays 33 = .ok (.aload_n 0, 1) := by decide +kernel
theorem d12_pays_34 : decode c12_pays 34 = .ok (.getfield 39, 3) := by decide +kernel
theorem d12_pays_37 : decode c12_pays 37 = .ok (.bipush 11, 2) := by decide +kernel
theorem d12_pays_39 : decode c12_pays 39 = .ok (.iaload, 1) := by decide +kernel
theorem d12_pays_40 : decode c12_pays 40 = .ok (.aload_n 0, 1) := by decide +kernel
theorem d12_pays_41 : decode c12_pays 41 = .ok (.getfield 39, 3) := by decide +kernel
theorem d12_pays_44 : decode c12_pays 44 = .ok (.iconst 1, 1) := by decide +kernel
theorem d12_pays_45 : decode c12_pays 45 = .ok (.iaload, 1) := by decide +kernel
theorem d12_pays_46 : decode c12_pays 46 = .ok (.if_icmp .lt 62, 3) := by decide +kernel
theorem d12_pays_49 : decode c12_pays 49 = .ok (.aload_n 0, 1) := by decide +kernel
theorem d12_pays_50 : decode c12_pays 50 = .ok (.getfield 39, 3) := by decide +kernel
theorem d12_pays_53 : decode c12_pays 53 = .ok (.bipush 11, 2) := by decide +kernel
theorem d12_pays_55 : decode c12_pays 55 = .ok (.dup2, 1) := by decide +kernel
theorem d12_pays_56 : decode c12_pays 56 = .ok (.iaload, 1) := by decide +kernel
theorem d12_pays_57 : decode c12_pays 57 = .ok (.aload_n 0, 1) := by decide +kernel
theorem d12_pays_58 : decode c12_pays 58 = .ok (.getfield 39, 3) := by decide +kernel
theorem d12_pays_61 : decode c12_pays 61 = .ok (.iconst 1, 1) := by decide +kernel
theorem d12_pays_62 : decode c12_pays 62 = .ok (.iaload, 1) := by decide +kernel
theorem d12_pays_63 : decode c12_pays 63 = .ok (.isub, 1) := by decide +kernel
theorem d12_pays_64 : decode c12_pays 64 = .ok (.iastore, 1) := by decide +kernel
theorem d12_pays_65 : decode c12_pays 65 = .ok (.aload_n 0, 1) := by decide +kernel
theorem d12_pays_66 : decode c12_pays 66 = .ok (.getfield 39, 3) := by decide +kernel
theorem d12_pays_69 : decode c12_pays 69 = .ok (.bipush 23, 2) := by decide +kernel
theorem d12_pays_71 : decode c12_pays 71 = .ok (.iload_n 1, 1) := by decide +kernel
theorem d12_pays_72 : decode c12_pays 72 = .ok (.iadd, 1) := by decide +kernel
theorem d12_pays_73 : decode c12_pays 73 = .ok (.iaload, 1) := by decide +kernel
theorem d12_pays_74 : decode c12_pays 74 = .ok (.sipush 999, 3) := by decide +kernel
theorem d12_pays_77 : decode c12_pays 77 = .ok (.if_icmp .ge 16, 3) := by decide +kernel
theorem d12_pays_80 : decode c12_pays 80 = .ok (.aload_n 0, 1) := by decide +kernel
theorem d12_pays_81 : decode c12_pays 81 = .ok (.getfield 39, 3) := by decide +kernel
theorem d12_pays_84 : decode c12_pays 84 = .ok (.bipush 23, 2) := by decide +kernel
theorem d12_pays_86 : decode c12_pays 86 = .ok (.iload_n 1, 1) := by decide +kernel
theorem d12_pays_87 : decode c12_pays 87 = .ok (.iadd, 1) := by decide +kernel
theorem d12_pays_88 : decode c12_pays 88 = .ok (.dup2, 1) := by decide +kernel
theorem d12_pays_89 : decode c12_pays 89 = .ok (.iaload, 1) := by decide +kernel
theorem d12_pays_90 : decode c12_pays 90 = .ok (.iconst 1, 1) := by decide +kernel
theorem d12_pays_91 : decode c12_pays 91 = .ok (.iadd, 1) := by decide +kernel
theorem d12_pays_92 : decode c12_pays 92 = .ok (.iastore, 1) := by decide +kernel
theorem d12_pays_93 : decode c12_pays 93 = .ok (.aload_n 0, 1) := by decide +kernel
theorem d12_pays_94 : decode c12_pays 94 = .ok (.dup, 1) := by decide +kernel
theorem d12_pays_95 : decode c12_pays 95 = .ok (.getfield 343, 3) := by decide +kernel
theorem d12_pays_98 : decode c12_pays 98 = .ok (.iconst 1, 1) := by decide +kernel
theorem d12_pays_99 : decode c12_pays 99 = .ok (.iload_n 1, 1) := by decide +kernel
theorem d12_pays_100 : decode c12_pays 100 = .ok (.ishl, 1) := by decide +kernel
theorem d12_pays_101 : decode c12_pays 101 = .ok (.ior, 1) := by decide +kernel
theorem d12_pays_102 : decode c12_pays 102 = .ok (.putfield 343, 3) := by decide +kernel
theorem d12_pays_105 : decode c12_pays 105 = .ok (.goto 39, 3) := by decide +kernel
theorem d12_pays_108 : decode c12_pays 108 = .ok (.aload_n 0, 1) := by decide +kernel
theorem d12_pays_109 : decode c12_pays 109 = .ok (.getfield 39, 3) := by decide +kernel
theorem d12_pays_112 : decode c12_pays 112 = .ok (.bipush 12, 2) := by decide +kernel
theorem d12_pays_114 : decode c12_pays 114 = .ok (.iaload, 1) := by decide +kernel
theorem d12_pays_115 : decode c12_pays 115 = .ok (.sipush 999, 3) := by decide +kernel
theorem d12_pays_118 : decode c12_pays 118 = .ok (.if_icmp .ge 14, 3) := by decide +kernel
theorem d12_pays_121 : decode c12_pays 121 = .ok (.aload_n 0, 1) := by decide +kernel
theorem d12_pays_122 : decode c12_pays 122 = .ok (.getfield 39, 3) := by decide +kernel
theorem d12_pays_125 : decode c12_pays 125 = .ok (.bipush 12, 2) := by decide +kernel
theorem d12_pays_127 : decode c12_pays 127 = .ok (.dup2, 1) := by decide +kernel
theorem d12_pays_128 : decode c12_pays 128 = .ok (.iaload, 1) := by decide +kernel
theorem d12_pays_129 : decode c12_pays 129 = .ok (.iconst 1, 1) := by decide +kernel
theorem d12_pays_130 : decode c12_pays 130 = .ok (.iadd, 1) := by decide +kernel
theorem d12_pays_131 : decode c12_pays 131 = .ok (.iastore, 1) := by decide +kernel
theorem d12_pays_132 : decode c12_pays 132 = .ok (.aload_n 0, 1) := by decide +kernel
theorem d12_pays_133 : decode c12_pays 133 = .ok (.dup, 1) := by decide +kernel
theorem d12_pays_134 : decode c12_pays 134 = .ok (.getfield 340, 3) := by decide +kernel
theorem d12_pays_137 : decode c12_pays 137 = .ok (.iconst 1, 1) := by decide +kernel
theorem d12_pays_138 : decode c12_pays 138 = .ok (.iload_n 1, 1) := by decide +kernel
theorem d12_pays_139 : decode c12_pays 139 = .ok (.ishl, 1) := by decide +kernel
theorem d12_pays_140 : decode c12_pays 140 = .ok (.ior, 1) := by decide +kernel
theorem d12_pays_141 : decode c12_pays 141 = .ok (.putfield 340, 3) := by decide +kernel
theorem d12_pays_144 : decode c12_pays 144 = .ok (.iinc 1 1, 3) := by decide +kernel
theorem d12_pays_147 : decode c12_pays 147 = .ok (.goto (-135), 3) := by decide +kernel
theorem d12_pays_150 : decode c12_pays 150 = .ok (.return_, 1) := by decide +kernel
abbrev c12_prints : ByteArray := prog_14_method_65_code
def y12_prints : MethodName := ⟨RX12, "prints", "(I)V"⟩
theorem d12_prints_0 : decode c12_prints 0 = .ok (.iload_n 1, 1) := by decide +kernel
theorem d12_prints_1 : decode c12_prints 1 = .ok (.ifCond .lt 21, 3) := by decide +kernel
theorem d12_prints_4 : decode c12_prints 4 = .ok (.aload_n 0, 1) := by decide +kernel
theorem d12_prints_5 : decode c12_prints 5 = .ok (.getfield 39, 3) := by decide +kernel
theorem d12_prints_8 : decode c12_prints 8 = .ok (.bipush 13, 2) := by decide +kernel
theorem d12_prints_10 : decode c12_prints 10 = .ok (.iload_n 1, 1) := by decide +kernel
theorem d12_prints_11 : decode c12_prints 11 = .ok (.iadd, 1) := by decide +kernel
theorem d12_prints_12 : decode c12_prints 12 = .ok (.aload_n 0, 1) := by decide +kernel
theorem d12_prints_13 : decode c12_prints 13 = .ok (.getfield 39, 3) := by decide +kernel
theorem d12_prints_16 : decode c12_prints 16 = .ok (.bipush 43, 2) := by decide +kernel
theorem d12_prints_18 : decode c12_prints 18 = .ok (.iload_n 1, 1) := by decide +kernel
theorem d12_prints_19 : decode c12_prints 19 = .ok (.iadd, 1) := by decide +kernel
theorem d12_prints_20 : decode c12_prints 20 = .ok (.iaload, 1) := by decide +kernel
theorem d12_prints_21 : decode c12_prints 21 = .ok (.iastore, 1) := by decide +kernel
theorem d12_prints_22 : decode c12_prints 22 = .ok (.aload_n 0, 1) := by decide +kernel
theorem d12_prints_23 : decode c12_prints 23 = .ok (.iload_n 1, 1) := by decide +kernel
theorem d12_prints_24 : decode c12_prints 24 = .ok (.invokevirtual 346, 3) := by decide +kernel
theorem d12_prints_27 : decode c12_prints 27 = .ok (.aload_n 0, 1) := by decide +kernel
theorem d12_prints_28 : decode c12_prints 28 = .ok (.invokevirtual 349, 3) := by decide +kernel
theorem d12_prints_31 : decode c12_prints 31 = .ok (.aload_n 0, 1) := by decide +kernel
theorem d12_prints_32 : decode c12_prints 32 = .ok (.getfield 39, 3) := by decide +kernel
theorem d12_prints_35 : decode c12_prints 35 = .ok (.bipush 10, 2) := by decide +kernel
theorem d12_prints_37 : decode c12_prints 37 = .ok (.dup2, 1) := by decide +kernel
theorem d12_prints_38 : decode c12_prints 38 = .ok (.iaload, 1) := by decide +kernel
theorem d12_prints_39 : decode c12_prints 39 = .ok (.iconst 1, 1) := by decide +kernel
theorem d12_prints_40 : decode c12_prints 40 = .ok (.iadd, 1) := by decide +kernel
theorem d12_prints_41 : decode c12_prints 41 = .ok (.iastore, 1) := by decide +kernel
theorem d12_prints_42 : decode c12_prints 42 = .ok (.return_, 1) := by decide +kernel
abbrev c12_passes : ByteArray := prog_14_method_66_code
def y12_passes : MethodName := ⟨RX12, "passes", "()I"⟩
theorem d12_passes_0 : decode c12_passes 0 = .ok (.aload_n 0, 1) := by decide +kernel
theorem d12_passes_1 : decode c12_passes 1 = .ok (.invokevirtual 352, 3) := by decide +kernel
theorem d12_passes_4 : decode c12_passes 4 = .ok (.istore_n 1, 1) := by decide +kernel
theorem d12_passes_5 : decode c12_passes 5 = .ok (.aload_n 0, 1) := by decide +kernel
theorem d12_passes_6 : decode c12_passes 6 = .ok (.iload_n 1, 1) := by decide +kernel
theorem d12_passes_7 : decode c12_passes 7 = .ok (.invokevirtual 355, 3) := by decide +kernel
theorem d12_passes_10 : decode c12_passes 10 = .ok (.iload_n 1, 1) := by decide +kernel
theorem d12_passes_11 : decode c12_passes 11 = .ok (.ireturn, 1) := by decide +kernel
abbrev c12_passesAll : ByteArray := prog_14_method_67_code
def y12_passesAll : MethodName := ⟨RX12, "passesAll", "(I)V"⟩
theorem d12_passesAll_0 : decode c12_passesAll 0 = .ok (.iconst 0, 1) := by decide +kernel
theorem d12_passesAll_1 : decode c12_passesAll 1 = .ok (.istore_n 2, 1) := by decide +kernel
theorem d12_passesAll_2 : decode c12_passesAll 2 = .ok (.iload_n 2, 1) := by decide +kernel
theorem d12_passesAll_3 : decode c12_passesAll 3 = .ok (.iload_n 1, 1) := by decide +kernel
theorem d12_passesAll_4 : decode c12_passesAll 4 = .ok (.if_icmp .ge 14, 3) := by decide +kernel
theorem d12_passesAll_7 : decode c12_passesAll 7 = .ok (.aload_n 0, 1) := by decide +kernel
theorem d12_passesAll_8 : decode c12_passesAll 8 = .ok (.invokevirtual 358, 3) := by decide +kernel
theorem d12_passesAll_11 : decode c12_passesAll 11 = .ok (.pop, 1) := by decide +kernel
theorem d12_passesAll_12 : decode c12_passesAll 12 = .ok (.iinc 2 1, 3) := by decide +kernel
theorem d12_passesAll_15 : decode c12_passesAll 15 = .ok (.goto (-13), 3) := by decide +kernel
theorem d12_passesAll_18 : decode c12_passesAll 18 = .ok (.return_, 1) := by decide +kernel
abbrev c12_keepsAct : ByteArray := prog_14_method_68_code
def y12_keepsAct : MethodName := ⟨RX12, "keepsAct", "()V"⟩
theorem d12_keepsAct_0 : decode c12_keepsAct 0 = .ok (.aload_n 0, 1) := by decide +kernel
theorem d12_keepsAct_1 : decode c12_keepsAct 1 = .ok (.getfield 275, 3) := by decide +kernel
theorem d12_keepsAct_4 : decode c12_keepsAct 4 = .ok (.bipush 20, 2) := by decide +kernel
theorem d12_keepsAct_6 : decode c12_keepsAct 6 = .ok (.if_icmp .ne 44, 3) := by decide +kernel
theorem d12_keepsAct_9 : decode c12_keepsAct 9 = .ok (.bipush 33, 2) := by decide +kernel
theorem d12_keepsAct_11 : decode c12_keepsAct 11 = .ok (.istore_n 1, 1) := by decide +kernel
theorem d12_keepsAct_12 : decode c12_keepsAct 12 = .ok (.iload_n 1, 1) := by decide +kernel
theorem d12_keepsAct_13 : decode c12_keepsAct 13 = .ok (.sipush 660, 3) := by decide +kernel
theorem d12_keepsAct_16 : decode c12_keepsAct 16 = .ok (.if_icmp .ge 24, 3) := by decide +kernel
theorem d12_keepsAct_19 : decode c12_keepsAct 19 = .ok (.aload_n 0, 1) := by decide +kernel
theorem d12_keepsAct_20 : decode c12_keepsAct 20 = .ok (.getfield 49, 3) := by decide +kernel
theorem d12_keepsAct_23 : decode c12_keepsAct 23 = .ok (.iload_n 1, 1) := by decide +kernel
theorem d12_keepsAct_24 : decode c12_keepsAct 24 = .ok (.bipush 33, 2) := by decide +kernel
theorem d12_keepsAct_26 : decode c12_keepsAct 26 = .ok (.isub, 1) := by decide +kernel
theorem d12_keepsAct_27 : decode c12_keepsAct 27 = .ok (.aload_n 0, 1) := by decide +kernel
theorem d12_keepsAct_28 : decode c12_keepsAct 28 = .ok (.getfield 49, 3) := by decide +kernel
theorem d12_keepsAct_31 : decode c12_keepsAct 31 = .ok (.iload_n 1, 1) := by decide +kernel
theorem d12_keepsAct_32 : decode c12_keepsAct 32 = .ok (.iaload, 1) := by decide +kernel
theorem d12_keepsAct_33 : decode c12_keepsAct 33 = .ok (.iastore, 1) := by decide +kernel
theorem d12_keepsAct_34 : decode c12_keepsAct 34 = .ok (.iinc 1 1, 3) := by decide +kernel
theorem d12_keepsAct_37 : decode c12_keepsAct 37 = .ok (.goto (-25), 3) := by decide +kernel
theorem d12_keepsAct_40 : decode c12_keepsAct 40 = .ok (.aload_n 0, 1) := by decide +kernel
theorem d12_keepsAct_41 : decode c12_keepsAct 41 = .ok (.dup, 1) := by decide +kernel
theorem d12_keepsAct_42 : decode c12_keepsAct 42 = .ok (.getfield 275, 3) := by decide +kernel
theorem d12_keepsAct_45 : decode c12_keepsAct 45 = .ok (.iconst 1, 1) := by decide +kernel
theorem d12_keepsAct_46 : decode c12_keepsAct 46 = .ok (.isub, 1) := by decide +kernel
theorem d12_keepsAct_47 : decode c12_keepsAct 47 = .ok (.putfield 275, 3) := by decide +kernel
theorem d12_keepsAct_50 : decode c12_keepsAct 50 = .ok (.iconst 0, 1) := by decide +kernel
theorem d12_keepsAct_51 : decode c12_keepsAct 51 = .ok (.istore_n 1, 1) := by decide +kernel
theorem d12_keepsAct_52 : decode c12_keepsAct 52 = .ok (.iload_n 1, 1) := by decide +kernel
theorem d12_keepsAct_53 : decode c12_keepsAct 53 = .ok (.bipush 33, 2) := by decide +kernel
theorem d12_keepsAct_55 : decode c12_keepsAct 55 = .ok (.if_icmp .ge 32, 3) := by decide +kernel
theorem d12_keepsAct_58 : decode c12_keepsAct 58 = .ok (.aload_n 0, 1) := by decide +kernel
theorem d12_keepsAct_59 : decode c12_keepsAct 59 = .ok (.getfield 49, 3) := by decide +kernel
theorem d12_keepsAct_62 : decode c12_keepsAct 62 = .ok (.bipush 33, 2) := by decide +kernel
theorem d12_keepsAct_64 : decode c12_keepsAct 64 = .ok (.aload_n 0, 1) := by decide +kernel
theorem d12_keepsAct_65 : decode c12_keepsAct 65 = .ok (.getfield 275, 3) := by decide +kernel
theorem d12_keepsAct_68 : decode c12_keepsAct 68 = .ok (.imul, 1) := by decide +kernel
theorem d12_keepsAct_69 : decode c12_keepsAct 69 = .ok (.iload_n 1, 1) := by decide +kernel
theorem d12_keepsAct_70 : decode c12_keepsAct 70 = .ok (.iadd, 1) := by decide +kernel
theorem d12_keepsAct_71 : decode c12_keepsAct 71 = .ok (.aload_n 0, 1) := by decide +kernel
theorem d12_keepsAct_72 : decode c12_keepsAct 72 = .ok (.getfield 39, 3) := by decide +kernel
theorem d12_keepsAct_75 : decode c12_keepsAct 75 = .ok (.bipush 10, 2) := by decide +kernel
theorem d12_keepsAct_77 : decode c12_keepsAct 77 = .ok (.iload_n 1, 1) := by decide +kernel
theorem d12_keepsAct_78 : decode c12_keepsAct 78 = .ok (.iadd, 1) := by decide +kernel
theorem d12_keepsAct_79 : decode c12_keepsAct 79 = .ok (.iaload, 1) := by decide +kernel
theorem d12_keepsAct_80 : decode c12_keepsAct 80 = .ok (.iastore, 1) := by decide +kernel
theorem d12_keepsAct_81 : decode c12_keepsAct 81 = .ok (.iinc 1 1, 3) := by decide +kernel
theorem d12_keepsAct_84 : decode c12_keepsAct 84 = .ok (.goto (-32), 3) := by decide +kernel
theorem d12_keepsAct_87 : decode c12_keepsAct 87 = .ok (.aload_n 0, 1) := by decide +kernel
theorem d12_keepsAct_88 : decode c12_keepsAct 88 = .ok (.dup, 1) := by decide +kernel
theorem d12_keepsAct_89 : decode c12_keepsAct 89 = .ok (.getfield 275, 3) := by decide +kernel
theorem d12_keepsAct_92 : decode c12_keepsAct 92 = .ok (.iconst 1, 1) := by decide +kernel
theorem d12_keepsAct_93 : decode c12_keepsAct 93 = .ok (.iadd, 1) := by decide +kernel
theorem d12_keepsAct_94 : decode c12_keepsAct 94 = .ok (.putfield 275, 3) := by decide +kernel
theorem d12_keepsAct_97 : decode c12_keepsAct 97 = .ok (.return_, 1) := by decide +kernel
abbrev c12_undo : ByteArray := prog_14_method_69_code
def y12_undo : MethodName := ⟨RX12, "undo", "()I"⟩
theorem d12_undo_0 : decode c12_undo 0 = .ok (.aload_n 0, 1) := by decide +kernel
theorem d12_undo_1 : decode c12_undo 1 = .ok (.getfield 275, 3) := by decide +kernel
theorem d12_undo_4 : decode c12_undo 4 = .ok (.ifCond .ne 5, 3) := by decide +kernel
theorem d12_undo_7 : decode c12_undo 7 = .ok (.iconst (-1), 1) := by decide +kernel
theorem d12_undo_8 : decode c12_undo 8 = .ok (.ireturn, 1) := by decide +kernel
theorem d12_undo_9 : decode c12_undo 9 = .ok (.aload_n 0, 1) := by decide +kernel
theorem d12_undo_10 : decode c12_undo 10 = .ok (.dup, 1) := by decide +kernel
theorem d12_undo_11 : decode c12_undo 11 = .ok (.getfield 275, 3) := by decide +kernel
theorem d12_undo_14 : decode c12_undo 14 = .ok (.iconst 1, 1) := by decide +kernel
theorem d12_undo_15 : decode c12_undo 15 = .ok (.isub, 1) := by decide +kernel
theorem d12_undo_16 : decode c12_undo 16 = .ok (.putfield 275, 3) := by decide +kernel
theorem d12_undo_19 : decode c12_undo 19 = .ok (.iconst 0, 1) := by decide +kernel
theorem d12_undo_20 : decode c12_undo 20 = .ok (.istore_n 1, 1) := by decide +kernel
theorem d12_undo_21 : decode c12_undo 21 = .ok (.iload_n 1, 1) := by decide +kernel
theorem d12_undo_22 : decode c12_undo 22 = .ok (.bipush 33, 2) := by decide +kernel
theorem d12_undo_24 : decode c12_undo 24 = .ok (.if_icmp .ge 32, 3) := by decide +kernel
theorem d12_undo_27 : decode c12_undo 27 = .ok (.aload_n 0, 1) := by decide +kernel
theorem d12_undo_28 : decode c12_undo 28 = .ok (.getfield 39, 3) := by decide +kernel
theorem d12_undo_31 : decode c12_undo 31 = .ok (.bipush 10, 2) := by decide +kernel
theorem d12_undo_33 : decode c12_undo 33 = .ok (.iload_n 1, 1) := by decide +kernel
theorem d12_undo_34 : decode c12_undo 34 = .ok (.iadd, 1) := by decide +kernel
theorem d12_undo_35 : decode c12_undo 35 = .ok (.aload_n 0, 1) := by decide +kernel
theorem d12_undo_36 : decode c12_undo 36 = .ok (.getfield 49, 3) := by decide +kernel
theorem d12_undo_39 : decode c12_undo 39 = .ok (.bipush 33, 2) := by decide +kernel
theorem d12_undo_41 : decode c12_undo 41 = .ok (.aload_n 0, 1) := by decide +kernel
theorem d12_undo_42 : decode c12_undo 42 = .ok (.getfield 275, 3) := by decide +kernel
theorem d12_undo_45 : decode c12_undo 45 = .ok (.imul, 1) := by decide +kernel
theorem d12_undo_46 : decode c12_undo 46 = .ok (.iload_n 1, 1) := by decide +kernel
theorem d12_undo_47 : decode c12_undo 47 = .ok (.iadd, 1) := by decide +kernel
theorem d12_undo_48 : decode c12_undo 48 = .ok (.iaload, 1) := by decide +kernel
theorem d12_undo_49 : decode c12_undo 49 = .ok (.iastore, 1) := by decide +kernel
theorem d12_undo_50 : decode c12_undo 50 = .ok (.iinc 1 1, 3) := by decide +kernel
theorem d12_undo_53 : decode c12_undo 53 = .ok (.goto (-32), 3) := by decide +kernel
theorem d12_undo_56 : decode c12_undo 56 = .ok (.aload_n 0, 1) := by decide +kernel
theorem d12_undo_57 : decode c12_undo 57 = .ok (.getfield 275, 3) := by decide +kernel
theorem d12_undo_60 : decode c12_undo 60 = .ok (.ireturn, 1) := by decide +kernel
abbrev c12_edition : ByteArray := prog_14_method_70_code
def y12_edition : MethodName := ⟨RX12, "edition", "()I"⟩
theorem d12_edition_0 : decode c12_edition 0 = .ok (.aload_n 0, 1) := by decide +kernel
theorem d12_edition_1 : decode c12_edition 1 = .ok (.invokevirtual 293, 3) := by decide +kernel
theorem d12_edition_4 : decode c12_edition 4 = .ok (.ifCond .eq 16, 3) := by decide +kernel
theorem d12_edition_7 : decode c12_edition 7 = .ok (.aload_n 0, 1) := by decide +kernel
theorem d12_edition_8 : decode c12_edition 8 = .ok (.getfield 39, 3) := by decide +kernel
theorem d12_edition_11 : decode c12_edition 11 = .ok (.bipush 10, 2) := by decide +kernel
theorem d12_edition_13 : decode c12_edition 13 = .ok (.iaload, 1) := by decide +kernel
theorem d12_edition_14 : decode c12_edition 14 = .ok (.sipush 999, 3) := by decide +kernel
theorem d12_edition_17 : decode c12_edition 17 = .ok (.if_icmp .ne 5, 3) := by decide +kernel
theorem d12_edition_20 : decode c12_edition 20 = .ok (.iconst (-1), 1) := by decide +kernel
theorem d12_edition_21 : decode c12_edition 21 = .ok (.ireturn, 1) := by decide +kernel
theorem d12_edition_22 : decode c12_edition 22 = .ok (.aload_n 0, 1) := by decide +kernel
theorem d12_edition_23 : decode c12_edition 23 = .ok (.invokevirtual 361, 3) := by decide +kernel
theorem d12_edition_26 : decode c12_edition 26 = .ok (.aload_n 0, 1) := by decide +kernel
theorem d12_edition_27 : decode c12_edition 27 = .ok (.invokevirtual 358, 3) := by decide +kernel
theorem d12_edition_30 : decode c12_edition 30 = .ok (.istore_n 1, 1) := by decide +kernel
theorem d12_edition_31 : decode c12_edition 31 = .ok (.iload_n 1, 1) := by decide +kernel
theorem d12_edition_32 : decode c12_edition 32 = .ok (.ifCond .ge 8, 3) := by decide +kernel
theorem d12_edition_35 : decode c12_edition 35 = .ok (.bipush (-2), 2) := by decide +kernel
theorem d12_edition_37 : decode c12_edition 37 = .ok (.goto 4, 3) := by decide +kernel
theorem d12_edition_40 : decode c12_edition 40 = .ok (.iload_n 1, 1) := by decide +kernel
theorem d12_edition_41 : decode c12_edition 41 = .ok (.ireturn, 1) := by decide +kernel
abbrev c12_set : ByteArray := prog_14_method_71_code
def y12_set : MethodName := ⟨RX12, "set", "(II)I"⟩
theorem d12_set_0 : decode c12_set 0 = .ok (.aload_n 0, 1) := by decide +kernel
theorem d12_set_1 : decode c12_set 1 = .ok (.iload_n 1, 1) := by decide +kernel
theorem d12_set_2 : decode c12_set 2 = .ok (.invokevirtual 299, 3) := by decide +kernel
theorem d12_set_5 : decode c12_set 5 = .ok (.ifCond .eq 28, 3) := by decide +kernel
theorem d12_set_8 : decode c12_set 8 = .ok (.iload_n 2, 1) := by decide +kernel
theorem d12_set_9 : decode c12_set 9 = .ok (.i2l, 1) := by decide +kernel
theorem d12_set_10 : decode c12_set 10 = .ok (.lconst 0, 1) := by decide +kernel
theorem d12_set_11 : decode c12_set 11 = .ok (.ldc2_w 364, 3) := by decide +kernel
theorem d12_set_14 : decode c12_set 14 = .ok (.invokestatic 127, 3) := by decide +kernel
theorem d12_set_17 : decode c12_set 17 = .ok (.ifCond .eq 16, 3) := by decide +kernel
theorem d12_set_20 : decode c12_set 20 = .ok (.aload_n 0, 1) := by decide +kernel
theorem d12_set_21 : decode c12_set 21 = .ok (.getfield 39, 3) := by decide +kernel
theorem d12_set_24 : decode c12_set 24 = .ok (.bipush 13, 2) := by decide +kernel
theorem d12_set_26 : decode c12_set 26 = .ok (.iload_n 1, 1) := by decide +kernel
theorem d12_set_27 : decode c12_set 27 = .ok (.iadd, 1) := by decide +kernel
theorem d12_set_28 : decode c12_set 28 = .ok (.iaload, 1) := by decide +kernel
theorem d12_set_29 : decode c12_set 29 = .ok (.iload_n 2, 1) := by decide +kernel
theorem d12_set_30 : decode c12_set 30 = .ok (.if_icmp .ne 5, 3) := by decide +kernel
theorem d12_set_33 : decode c12_set 33 = .ok (.iconst (-1), 1) := by decide +kernel
theorem d12_set_34 : decode c12_set 34 = .ok (.ireturn, 1) := by decide +kernel
theorem d12_set_35 : decode c12_set 35 = .ok (.aload_n 0, 1) := by decide +kernel
theorem d12_set_36 : decode c12_set 36 = .ok (.invokevirtual 361, 3) := by decide +kernel
theorem d12_set_39 : decode c12_set 39 = .ok (.aload_n 0, 1) := by decide +kernel
theorem d12_set_40 : decode c12_set 40 = .ok (.getfield 39, 3) := by decide +kernel
theorem d12_set_43 : decode c12_set 43 = .ok (.bipush 13, 2) := by decide +kernel
theorem d12_set_45 : decode c12_set 45 = .ok (.iload_n 1, 1) := by decide +kernel
theorem d12_set_46 : decode c12_set 46 = .ok (.iadd, 1) := by decide +kernel
theorem d12_set_47 : decode c12_set 47 = .ok (.iaload, 1) := by decide +kernel
theorem d12_set_48 : decode c12_set 48 = .ok (.istore_n 3, 1) := by decide +kernel
theorem d12_set_49 : decode c12_set 49 = .ok (.aload_n 0, 1) := by decide +kernel
theorem d12_set_50 : decode c12_set 50 = .ok (.getfield 39, 3) := by decide +kernel
theorem d12_set_53 : decode c12_set 53 = .ok (.bipush 13, 2) := by decide +kernel
theorem d12_set_55 : decode c12_set 55 = .ok (.iload_n 1, 1) := by decide +kernel
theorem d12_set_56 : decode c12_set 56 = .ok (.iadd, 1) := by decide +kernel
theorem d12_set_57 : decode c12_set 57 = .ok (.iload_n 2, 1) := by decide +kernel
theorem d12_set_58 : decode c12_set 58 = .ok (.iastore, 1) := by decide +kernel
theorem d12_set_59 : decode c12_set 59 = .ok (.iload_n 3, 1) := by decide +kernel
theorem d12_set_60 : decode c12_set 60 = .ok (.ireturn, 1) := by decide +kernel
abbrev c12_mend : ByteArray := prog_14_method_72_code
def y12_mend : MethodName := ⟨RX12, "mend", "(I)I"⟩
theorem d12_mend_0 : decode c12_mend 0 = .ok (.aload_n 0, 1) := by decide +kernel
theorem d12_mend_1 : decode c12_mend 1 = .ok (.iload_n 1, 1) := by decide +kernel
theorem d12_mend_2 : decode c12_mend 2 = .ok (.invokevirtual 305, 3) := by decide +kernel
theorem d12_mend_5 : decode c12_mend 5 = .ok (.ifCond .ne 5, 3) := by decide +kernel
theorem d12_mend_8 : decode c12_mend 8 = .ok (.iconst (-1), 1) := by decide +kernel
theorem d12_mend_9 : decode c12_mend 9 = .ok (.ireturn, 1) := by decide +kernel
theorem d12_mend_10 : decode c12_mend 10 = .ok (.aload_n 0, 1) := by decide +kernel
theorem d12_mend_11 : decode c12_mend 11 = .ok (.invokevirtual 361, 3) := by decide +kernel
theorem d12_mend_14 : decode c12_mend 14 = .ok (.aload_n 0, 1) := by decide +kernel
theorem d12_mend_15 : decode c12_mend 15 = .ok (.getfield 39, 3) := by decide +kernel
theorem d12_mend_18 : decode c12_mend 18 = .ok (.bipush 13, 2) := by decide +kernel
theorem d12_mend_20 : decode c12_mend 20 = .ok (.iload_n 1, 1) := by decide +kernel
theorem d12_mend_21 : decode c12_mend 21 = .ok (.iadd, 1) := by decide +kernel
theorem d12_mend_22 : decode c12_mend 22 = .ok (.aload_n 0, 1) := by decide +kernel
theorem d12_mend_23 : decode c12_mend 23 = .ok (.getfield 39, 3) := by decide +kernel
theorem d12_mend_26 : decode c12_mend 26 = .ok (.bipush 43, 2) := by decide +kernel
theorem d12_mend_28 : decode c12_mend 28 = .ok (.iload_n 1, 1) := by decide +kernel
theorem d12_mend_29 : decode c12_mend 29 = .ok (.iadd, 1) := by decide +kernel
theorem d12_mend_30 : decode c12_mend 30 = .ok (.iaload, 1) := by decide +kernel
theorem d12_mend_31 : decode c12_mend 31 = .ok (.iastore, 1) := by decide +kernel
theorem d12_mend_32 : decode c12_mend 32 = .ok (.aload_n 0, 1) := by decide +kernel
theorem d12_mend_33 : decode c12_mend 33 = .ok (.invokevirtual 302, 3) := by decide +kernel
theorem d12_mend_36 : decode c12_mend 36 = .ok (.invokestatic 324, 3) := by decide +kernel
theorem d12_mend_39 : decode c12_mend 39 = .ok (.ireturn, 1) := by decide +kernel
abbrev c12_hang : ByteArray := prog_14_method_73_code
def y12_hang : MethodName := ⟨RX12, "hang", "(II)I"⟩
theorem d12_hang_0 : decode c12_hang 0 = .ok (.aload_n 0, 1) := by decide +kernel
theorem d12_hang_1 : decode c12_hang 1 = .ok (.iload_n 1, 1) := by decide +kernel
theorem d12_hang_2 : decode c12_hang 2 = .ok (.invokevirtual 299, 3) := by decide +kernel
theorem d12_hang_5 : decode c12_hang 5 = .ok (.ifCond .eq 16, 3) := by decide +kernel
theorem d12_hang_8 : decode c12_hang 8 = .ok (.aload_n 0, 1) := by decide +kernel
theorem d12_hang_9 : decode c12_hang 9 = .ok (.iload_n 2, 1) := by decide +kernel
theorem d12_hang_10 : decode c12_hang 10 = .ok (.invokevirtual 299, 3) := by decide +kernel
theorem d12_hang_13 : decode c12_hang 13 = .ok (.ifCond .eq 8, 3) := by decide +kernel
theorem d12_hang_16 : decode c12_hang 16 = .ok (.iload_n 1, 1) := by decide +kernel
theorem d12_hang_17 : decode c12_hang 17 = .ok (.iload_n 2, 1) := by decide +kernel
theorem d12_hang_18 : decode c12_hang 18 = .ok (.if_icmp .ne 5, 3) := by decide +kernel
theorem d12_hang_21 : decode c12_hang 21 = .ok (.iconst (-1), 1) := by decide +kernel
theorem d12_hang_22 : decode c12_hang 22 = .ok (.ireturn, 1) := by decide +kernel
theorem d12_hang_23 : decode c12_hang 23 = .ok (.aload_n 0, 1) := by decide +kernel
theorem d12_hang_24 : decode c12_hang 24 = .ok (.invokevirtual 361, 3) := by decide +kernel
theorem d12_hang_27 : decode c12_hang 27 = .ok (.aload_n 0, 1) := by decide +kernel
theorem d12_hang_28 : decode c12_hang 28 = .ok (.getfield 39, 3) := by decide +kernel
theorem d12_hang_31 : decode c12_hang 31 = .ok (.bipush 33, 2) := by decide +kernel
theorem d12_hang_33 : decode c12_hang 33 = .ok (.iload_n 1, 1) := by decide +kernel
theorem d12_hang_34 : decode c12_hang 34 = .ok (.iadd, 1) := by decide +kernel
theorem d12_hang_35 : decode c12_hang 35 = .ok (.dup2, 1) := by decide +kernel
theorem d12_hang_36 : decode c12_hang 36 = .ok (.iaload, 1) := by decide +kernel
theorem d12_hang_37 : decode c12_hang 37 = .ok (.iconst 1, 1) := by decide +kernel
theorem d12_hang_38 : decode c12_hang 38 = .ok (.iload_n 2, 1) := by decide +kernel
theorem d12_hang_39 : decode c12_hang 39 = .ok (.ishl, 1) := by decide +kernel
theorem d12_hang_40 : decode c12_hang 40 = .ok (.ixor, 1) := by decide +kernel
theorem d12_hang_41 : decode c12_hang 41 = .ok (.iastore, 1) := by decide +kernel
theorem d12_hang_42 : decode c12_hang 42 = .ok (.aload_n 0, 1) := by decide +kernel
theorem d12_hang_43 : decode c12_hang 43 = .ok (.getfield 39, 3) := by decide +kernel
theorem d12_hang_46 : decode c12_hang 46 = .ok (.bipush 33, 2) := by decide +kernel
theorem d12_hang_48 : decode c12_hang 48 = .ok (.iload_n 1, 1) := by decide +kernel
theorem d12_hang_49 : decode c12_hang 49 = .ok (.iadd, 1) := by decide +kernel
theorem d12_hang_50 : decode c12_hang 50 = .ok (.iaload, 1) := by decide +kernel
theorem d12_hang_51 : decode c12_hang 51 = .ok (.iload_n 2, 1) := by decide +kernel
theorem d12_hang_52 : decode c12_hang 52 = .ok (.ishr, 1) := by decide +kernel
theorem d12_hang_53 : decode c12_hang 53 = .ok (.iconst 1, 1) := by decide +kernel
theorem d12_hang_54 : decode c12_hang 54 = .ok (.iand, 1) := by decide +kernel
theorem d12_hang_55 : decode c12_hang 55 = .ok (.ireturn, 1) := by decide +kernel
