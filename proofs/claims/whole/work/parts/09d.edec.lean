abbrev c_ErrataRow_fill : ByteArray := prog_1_method_19_code
def y_ErrataRow_fill : MethodName := ⟨RX11, "fill", "(I)I"⟩
theorem d_ErrataRow_fill_0 : decode c_ErrataRow_fill 0 = .ok (.aload_n 0, 1) := by decide +kernel
theorem d_ErrataRow_fill_1 : decode c_ErrataRow_fill 1 = .ok (.getfield 45, 3) := by decide +kernel
theorem d_ErrataRow_fill_4 : decode c_ErrataRow_fill 4 = .ok (.getfield 62, 3) := by decide +kernel
theorem d_ErrataRow_fill_7 : decode c_ErrataRow_fill 7 = .ok (.getfield 160, 3) := by decide +kernel
theorem d_ErrataRow_fill_10 : decode c_ErrataRow_fill 10 = .ok (.ifCond .eq 13, 3) := by decide +kernel
theorem d_ErrataRow_fill_13 : decode c_ErrataRow_fill 13 = .ok (.iload_n 1, 1) := by decide +kernel
theorem d_ErrataRow_fill_14 : decode c_ErrataRow_fill 14 = .ok (.iconst 1, 1) := by decide +kernel
theorem d_ErrataRow_fill_15 : decode c_ErrataRow_fill 15 = .ok (.bipush 99, 2) := by decide +kernel
theorem d_ErrataRow_fill_17 : decode c_ErrataRow_fill 17 = .ok (.invokestatic 166, 3) := by decide +kernel
theorem d_ErrataRow_fill_20 : decode c_ErrataRow_fill 20 = .ok (.ifCond .ne 5, 3) := by decide +kernel
theorem d_ErrataRow_fill_23 : decode c_ErrataRow_fill 23 = .ok (.iconst (-1), 1) := by decide +kernel
theorem d_ErrataRow_fill_24 : decode c_ErrataRow_fill 24 = .ok (.ireturn, 1) := by decide +kernel
theorem d_ErrataRow_fill_25 : decode c_ErrataRow_fill 25 = .ok (.aload_n 0, 1) := by decide +kernel
theorem d_ErrataRow_fill_26 : decode c_ErrataRow_fill 26 = .ok (.getfield 56, 3) := by decide +kernel
theorem d_ErrataRow_fill_29 : decode c_ErrataRow_fill 29 = .ok (.aload_n 0, 1) := by decide +kernel
theorem d_ErrataRow_fill_30 : decode c_ErrataRow_fill 30 = .ok (.getfield 45, 3) := by decide +kernel
theorem d_ErrataRow_fill_33 : decode c_ErrataRow_fill 33 = .ok (.getfield 145, 3) := by decide +kernel
theorem d_ErrataRow_fill_36 : decode c_ErrataRow_fill 36 = .ok (.invokevirtual 208, 3) := by decide +kernel
theorem d_ErrataRow_fill_39 : decode c_ErrataRow_fill 39 = .ok (.aload_n 0, 1) := by decide +kernel
theorem d_ErrataRow_fill_40 : decode c_ErrataRow_fill 40 = .ok (.getfield 45, 3) := by decide +kernel
theorem d_ErrataRow_fill_43 : decode c_ErrataRow_fill 43 = .ok (.getfield 145, 3) := by decide +kernel
theorem d_ErrataRow_fill_46 : decode c_ErrataRow_fill 46 = .ok (.aload_n 0, 1) := by decide +kernel
theorem d_ErrataRow_fill_47 : decode c_ErrataRow_fill 47 = .ok (.getfield 45, 3) := by decide +kernel
theorem d_ErrataRow_fill_50 : decode c_ErrataRow_fill 50 = .ok (.getfield 145, 3) := by decide +kernel
theorem d_ErrataRow_fill_53 : decode c_ErrataRow_fill 53 = .ok (.getfield 189, 3) := by decide +kernel
theorem d_ErrataRow_fill_56 : decode c_ErrataRow_fill 56 = .ok (.iload_n 1, 1) := by decide +kernel
theorem d_ErrataRow_fill_57 : decode c_ErrataRow_fill 57 = .ok (.iadd, 1) := by decide +kernel
theorem d_ErrataRow_fill_58 : decode c_ErrataRow_fill 58 = .ok (.sipush 999, 3) := by decide +kernel
theorem d_ErrataRow_fill_61 : decode c_ErrataRow_fill 61 = .ok (.invokestatic 228, 3) := by decide +kernel
theorem d_ErrataRow_fill_64 : decode c_ErrataRow_fill 64 = .ok (.putfield 189, 3) := by decide +kernel
theorem d_ErrataRow_fill_67 : decode c_ErrataRow_fill 67 = .ok (.aload_n 0, 1) := by decide +kernel
theorem d_ErrataRow_fill_68 : decode c_ErrataRow_fill 68 = .ok (.getfield 45, 3) := by decide +kernel
theorem d_ErrataRow_fill_71 : decode c_ErrataRow_fill 71 = .ok (.getfield 145, 3) := by decide +kernel
theorem d_ErrataRow_fill_74 : decode c_ErrataRow_fill 74 = .ok (.getfield 189, 3) := by decide +kernel
theorem d_ErrataRow_fill_77 : decode c_ErrataRow_fill 77 = .ok (.ireturn, 1) := by decide +kernel
abbrev c_ErrataRow_undo : ByteArray := prog_1_method_20_code
def y_ErrataRow_undo : MethodName := ⟨RX11, "undo", "()I"⟩
theorem d_ErrataRow_undo_0 : decode c_ErrataRow_undo 0 = .ok (.aload_n 0, 1) := by decide +kernel
theorem d_ErrataRow_undo_1 : decode c_ErrataRow_undo 1 = .ok (.getfield 56, 3) := by decide +kernel
theorem d_ErrataRow_undo_4 : decode c_ErrataRow_undo 4 = .ok (.aload_n 0, 1) := by decide +kernel
theorem d_ErrataRow_undo_5 : decode c_ErrataRow_undo 5 = .ok (.getfield 45, 3) := by decide +kernel
theorem d_ErrataRow_undo_8 : decode c_ErrataRow_undo 8 = .ok (.getfield 145, 3) := by decide +kernel
theorem d_ErrataRow_undo_11 : decode c_ErrataRow_undo 11 = .ok (.invokevirtual 234, 3) := by decide +kernel
theorem d_ErrataRow_undo_14 : decode c_ErrataRow_undo 14 = .ok (.ifCond .eq 13, 3) := by decide +kernel
theorem d_ErrataRow_undo_17 : decode c_ErrataRow_undo 17 = .ok (.aload_n 0, 1) := by decide +kernel
theorem d_ErrataRow_undo_18 : decode c_ErrataRow_undo 18 = .ok (.getfield 56, 3) := by decide +kernel
theorem d_ErrataRow_undo_21 : decode c_ErrataRow_undo 21 = .ok (.getfield 204, 3) := by decide +kernel
theorem d_ErrataRow_undo_24 : decode c_ErrataRow_undo 24 = .ok (.goto 4, 3) := by decide +kernel
theorem d_ErrataRow_undo_27 : decode c_ErrataRow_undo 27 = .ok (.iconst (-1), 1) := by decide +kernel
theorem d_ErrataRow_undo_28 : decode c_ErrataRow_undo 28 = .ok (.ireturn, 1) := by decide +kernel
abbrev c_ErrataRow_hasBit : ByteArray := prog_1_method_21_code
def y_ErrataRow_hasBit : MethodName := ⟨RX11, "hasBit", "(II)Z"⟩
theorem d_ErrataRow_hasBit_0 : decode c_ErrataRow_hasBit 0 = .ok (.iload_n 0, 1) := by decide +kernel
theorem d_ErrataRow_hasBit_1 : decode c_ErrataRow_hasBit 1 = .ok (.iload_n 1, 1) := by decide +kernel
theorem d_ErrataRow_hasBit_2 : decode c_ErrataRow_hasBit 2 = .ok (.iushr, 1) := by decide +kernel
theorem d_ErrataRow_hasBit_3 : decode c_ErrataRow_hasBit 3 = .ok (.iconst 1, 1) := by decide +kernel
theorem d_ErrataRow_hasBit_4 : decode c_ErrataRow_hasBit 4 = .ok (.iand, 1) := by decide +kernel
theorem d_ErrataRow_hasBit_5 : decode c_ErrataRow_hasBit 5 = .ok (.ifCond .eq 7, 3) := by decide +kernel
theorem d_ErrataRow_hasBit_8 : decode c_ErrataRow_hasBit 8 = .ok (.iconst 1, 1) := by decide +kernel
theorem d_ErrataRow_hasBit_9 : decode c_ErrataRow_hasBit 9 = .ok (.goto 4, 3) := by decide +kernel
theorem d_ErrataRow_hasBit_12 : decode c_ErrataRow_hasBit 12 = .ok (.iconst 0, 1) := by decide +kernel
theorem d_ErrataRow_hasBit_13 : decode c_ErrataRow_hasBit 13 = .ok (.ireturn, 1) := by decide +kernel
abbrev c_ErrataRow_readyPress : ByteArray := prog_1_method_22_code
def y_ErrataRow_readyPress : MethodName := ⟨RX11, "readyPress", "(I)V"⟩
theorem d_ErrataRow_readyPress_0 : decode c_ErrataRow_readyPress 0 = .ok (.aload_n 0, 1) := by decide +kernel
theorem d_ErrataRow_readyPress_1 : decode c_ErrataRow_readyPress 1 = .ok (.getfield 69, 3) := by decide +kernel
theorem d_ErrataRow_readyPress_4 : decode c_ErrataRow_readyPress 4 = .ok (.aload_n 0, 1) := by decide +kernel
theorem d_ErrataRow_readyPress_5 : decode c_ErrataRow_readyPress 5 = .ok (.iload_n 1, 1) := by decide +kernel
theorem d_ErrataRow_readyPress_6 : decode c_ErrataRow_readyPress 6 = .ok (.invokevirtual 238, 3) := by decide +kernel
theorem d_ErrataRow_readyPress_9 : decode c_ErrataRow_readyPress 9 = .ok (.putfield 242, 3) := by decide +kernel
theorem d_ErrataRow_readyPress_12 : decode c_ErrataRow_readyPress 12 = .ok (.aload_n 0, 1) := by decide +kernel
theorem d_ErrataRow_readyPress_13 : decode c_ErrataRow_readyPress 13 = .ok (.getfield 69, 3) := by decide +kernel
theorem d_ErrataRow_readyPress_16 : decode c_ErrataRow_readyPress 16 = .ok (.iconst (-1), 1) := by decide +kernel
theorem d_ErrataRow_readyPress_17 : decode c_ErrataRow_readyPress 17 = .ok (.putfield 246, 3) := by decide +kernel
theorem d_ErrataRow_readyPress_20 : decode c_ErrataRow_readyPress 20 = .ok (.return_, 1) := by decide +kernel
abbrev c_ErrataRow_startFrom : ByteArray := prog_1_method_23_code
def y_ErrataRow_startFrom : MethodName := ⟨RX11, "startFrom", "(LErrataRow$State;)V"⟩
theorem d_ErrataRow_startFrom_0 : decode c_ErrataRow_startFrom 0 = .ok (.aload_n 0, 1) := by decide +kernel
theorem d_ErrataRow_startFrom_1 : decode c_ErrataRow_startFrom 1 = .ok (.aload_n 0, 1) := by decide +kernel
theorem d_ErrataRow_startFrom_2 : decode c_ErrataRow_startFrom 2 = .ok (.getfield 45, 3) := by decide +kernel
theorem d_ErrataRow_startFrom_5 : decode c_ErrataRow_startFrom 5 = .ok (.getfield 138, 3) := by decide +kernel
theorem d_ErrataRow_startFrom_8 : decode c_ErrataRow_startFrom 8 = .ok (.invokevirtual 212, 3) := by decide +kernel
theorem d_ErrataRow_startFrom_11 : decode c_ErrataRow_startFrom 11 = .ok (.aload_n 0, 1) := by decide +kernel
theorem d_ErrataRow_startFrom_12 : decode c_ErrataRow_startFrom 12 = .ok (.getfield 85, 3) := by decide +kernel
theorem d_ErrataRow_startFrom_15 : decode c_ErrataRow_startFrom 15 = .ok (.aload_n 1, 1) := by decide +kernel
theorem d_ErrataRow_startFrom_16 : decode c_ErrataRow_startFrom 16 = .ok (.invokevirtual 249, 3) := by decide +kernel
theorem d_ErrataRow_startFrom_19 : decode c_ErrataRow_startFrom 19 = .ok (.return_, 1) := by decide +kernel
abbrev c_ErrataRow_goOn : ByteArray := prog_1_method_24_code
def y_ErrataRow_goOn : MethodName := ⟨RX11, "goOn", "(I)V"⟩
theorem d_ErrataRow_goOn_0 : decode c_ErrataRow_goOn 0 = .ok (.iconst 0, 1) := by decide +kernel
theorem d_ErrataRow_goOn_1 : decode c_ErrataRow_goOn 1 = .ok (.istore_n 2, 1) := by decide +kernel
theorem d_ErrataRow_goOn_2 : decode c_ErrataRow_goOn 2 = .ok (.iload_n 2, 1) := by decide +kernel
theorem d_ErrataRow_goOn_3 : decode c_ErrataRow_goOn 3 = .ok (.iload_n 1, 1) := by decide +kernel
theorem d_ErrataRow_goOn_4 : decode c_ErrataRow_goOn 4 = .ok (.if_icmp .ge 21, 3) := by decide +kernel
theorem d_ErrataRow_goOn_7 : decode c_ErrataRow_goOn 7 = .ok (.aload_n 0, 1) := by decide +kernel
theorem d_ErrataRow_goOn_8 : decode c_ErrataRow_goOn 8 = .ok (.getfield 69, 3) := by decide +kernel
theorem d_ErrataRow_goOn_11 : decode c_ErrataRow_goOn 11 = .ok (.aload_n 0, 1) := by decide +kernel
theorem d_ErrataRow_goOn_12 : decode c_ErrataRow_goOn 12 = .ok (.getfield 85, 3) := by decide +kernel
theorem d_ErrataRow_goOn_15 : decode c_ErrataRow_goOn 15 = .ok (.invokevirtual 215, 3) := by decide +kernel
theorem d_ErrataRow_goOn_18 : decode c_ErrataRow_goOn 18 = .ok (.pop, 1) := by decide +kernel
theorem d_ErrataRow_goOn_19 : decode c_ErrataRow_goOn 19 = .ok (.iinc 2 1, 3) := by decide +kernel
theorem d_ErrataRow_goOn_22 : decode c_ErrataRow_goOn 22 = .ok (.goto (-20), 3) := by decide +kernel
theorem d_ErrataRow_goOn_25 : decode c_ErrataRow_goOn 25 = .ok (.return_, 1) := by decide +kernel
abbrev c_ErrataRow_ahead : ByteArray := prog_1_method_25_code
def y_ErrataRow_ahead : MethodName := ⟨RX11, "ahead", "(III)I"⟩
theorem d_ErrataRow_ahead_0 : decode c_ErrataRow_ahead 0 = .ok (.aload_n 0, 1) := by decide +kernel
theorem d_ErrataRow_ahead_1 : decode c_ErrataRow_ahead 1 = .ok (.getfield 45, 3) := by decide +kernel
theorem d_ErrataRow_ahead_4 : decode c_ErrataRow_ahead 4 = .ok (.getfield 62, 3) := by decide +kernel
theorem d_ErrataRow_ahead_7 : decode c_ErrataRow_ahead 7 = .ok (.getfield 160, 3) := by decide +kernel
theorem d_ErrataRow_ahead_10 : decode c_ErrataRow_ahead 10 = .ok (.ifCond .eq 22, 3) := by decide +kernel
theorem d_ErrataRow_ahead_13 : decode c_ErrataRow_ahead 13 = .ok (.iload_n 2, 1) := by decide +kernel
theorem d_ErrataRow_ahead_14 : decode c_ErrataRow_ahead 14 = .ok (.iconst 0, 1) := by decide +kernel
theorem d_ErrataRow_ahead_15 : decode c_ErrataRow_ahead 15 = .ok (.bipush 100, 2) := by decide +kernel
theorem d_ErrataRow_ahead_17 : decode c_ErrataRow_ahead 17 = .ok (.invokestatic 166, 3) := by decide +kernel
theorem d_ErrataRow_ahead_20 : decode c_ErrataRow_ahead 20 = .ok (.ifCond .eq 12, 3) := by decide +kernel
theorem d_ErrataRow_ahead_23 : decode c_ErrataRow_ahead 23 = .ok (.iload_n 3, 1) := by decide +kernel
theorem d_ErrataRow_ahead_24 : decode c_ErrataRow_ahead 24 = .ok (.iconst 0, 1) := by decide +kernel
theorem d_ErrataRow_ahead_25 : decode c_ErrataRow_ahead 25 = .ok (.iconst 3, 1) := by decide +kernel
theorem d_ErrataRow_ahead_26 : decode c_ErrataRow_ahead 26 = .ok (.invokestatic 166, 3) := by decide +kernel
theorem d_ErrataRow_ahead_29 : decode c_ErrataRow_ahead 29 = .ok (.ifCond .ne 5, 3) := by decide +kernel
theorem d_ErrataRow_ahead_32 : decode c_ErrataRow_ahead 32 = .ok (.iconst (-1), 1) := by decide +kernel
theorem d_ErrataRow_ahead_33 : decode c_ErrataRow_ahead 33 = .ok (.ireturn, 1) := by decide +kernel
theorem d_ErrataRow_ahead_34 : decode c_ErrataRow_ahead 34 = .ok (.iload_n 3, 1) := by decide +kernel
theorem d_ErrataRow_ahead_35 : decode c_ErrataRow_ahead 35 = .ok (.ifCond .ne 13, 3) := by decide +kernel
theorem d_ErrataRow_ahead_38 : decode c_ErrataRow_ahead 38 = .ok (.aload_n 0, 1) := by decide +kernel
theorem d_ErrataRow_ahead_39 : decode c_ErrataRow_ahead 39 = .ok (.iload_n 1, 1) := by decide +kernel
theorem d_ErrataRow_ahead_40 : decode c_ErrataRow_ahead 40 = .ok (.invokevirtual 141, 3) := by decide +kernel
theorem d_ErrataRow_ahead_43 : decode c_ErrataRow_ahead 43 = .ok (.ifCond .ne 5, 3) := by decide +kernel
theorem d_ErrataRow_ahead_46 : decode c_ErrataRow_ahead 46 = .ok (.iconst (-1), 1) := by decide +kernel
theorem d_ErrataRow_ahead_47 : decode c_ErrataRow_ahead 47 = .ok (.ireturn, 1) := by decide +kernel
theorem d_ErrataRow_ahead_48 : decode c_ErrataRow_ahead 48 = .ok (.aload_n 0, 1) := by decide +kernel
theorem d_ErrataRow_ahead_49 : decode c_ErrataRow_ahead 49 = .ok (.aload_n 0, 1) := by decide +kernel
theorem d_ErrataRow_ahead_50 : decode c_ErrataRow_ahead 50 = .ok (.getfield 45, 3) := by decide +kernel
theorem d_ErrataRow_ahead_53 : decode c_ErrataRow_ahead 53 = .ok (.getfield 145, 3) := by decide +kernel
theorem d_ErrataRow_ahead_56 : decode c_ErrataRow_ahead 56 = .ok (.invokevirtual 252, 3) := by decide +kernel
theorem d_ErrataRow_ahead_59 : decode c_ErrataRow_ahead 59 = .ok (.aload_n 0, 1) := by decide +kernel
theorem d_ErrataRow_ahead_60 : decode c_ErrataRow_ahead 60 = .ok (.iload_n 2, 1) := by decide +kernel
theorem d_ErrataRow_ahead_61 : decode c_ErrataRow_ahead 61 = .ok (.invokevirtual 255, 3) := by decide +kernel
theorem d_ErrataRow_ahead_64 : decode c_ErrataRow_ahead 64 = .ok (.iload_n 3, 1) := by decide +kernel
theorem d_ErrataRow_ahead_65 : decode c_ErrataRow_ahead 65 = .ok (.tableswitch 57 0 2 #[27, 37, 49], 27) := by decide +kernel
theorem d_ErrataRow_ahead_92 : decode c_ErrataRow_ahead 92 = .ok (.aload_n 0, 1) := by decide +kernel
theorem d_ErrataRow_ahead_93 : decode c_ErrataRow_ahead 93 = .ok (.getfield 85, 3) := by decide +kernel
theorem d_ErrataRow_ahead_96 : decode c_ErrataRow_ahead 96 = .ok (.getfield 148, 3) := by decide +kernel
theorem d_ErrataRow_ahead_99 : decode c_ErrataRow_ahead 99 = .ok (.iload_n 1, 1) := by decide +kernel
theorem d_ErrataRow_ahead_100 : decode c_ErrataRow_ahead 100 = .ok (.iaload, 1) := by decide +kernel
theorem d_ErrataRow_ahead_101 : decode c_ErrataRow_ahead 101 = .ok (.ireturn, 1) := by decide +kernel
theorem d_ErrataRow_ahead_102 : decode c_ErrataRow_ahead 102 = .ok (.aload_n 0, 1) := by decide +kernel
theorem d_ErrataRow_ahead_103 : decode c_ErrataRow_ahead 103 = .ok (.getfield 69, 3) := by decide +kernel
theorem d_ErrataRow_ahead_106 : decode c_ErrataRow_ahead 106 = .ok (.aload_n 0, 1) := by decide +kernel
theorem d_ErrataRow_ahead_107 : decode c_ErrataRow_ahead 107 = .ok (.getfield 85, 3) := by decide +kernel
theorem d_ErrataRow_ahead_110 : decode c_ErrataRow_ahead 110 = .ok (.invokevirtual 182, 3) := by decide +kernel
theorem d_ErrataRow_ahead_113 : decode c_ErrataRow_ahead 113 = .ok (.ireturn, 1) := by decide +kernel
theorem d_ErrataRow_ahead_114 : decode c_ErrataRow_ahead 114 = .ok (.aload_n 0, 1) := by decide +kernel
theorem d_ErrataRow_ahead_115 : decode c_ErrataRow_ahead 115 = .ok (.getfield 85, 3) := by decide +kernel
theorem d_ErrataRow_ahead_118 : decode c_ErrataRow_ahead 118 = .ok (.getfield 189, 3) := by decide +kernel
theorem d_ErrataRow_ahead_121 : decode c_ErrataRow_ahead 121 = .ok (.ireturn, 1) := by decide +kernel
theorem d_ErrataRow_ahead_122 : decode c_ErrataRow_ahead 122 = .ok (.aload_n 0, 1) := by decide +kernel
theorem d_ErrataRow_ahead_123 : decode c_ErrataRow_ahead 123 = .ok (.getfield 85, 3) := by decide +kernel
theorem d_ErrataRow_ahead_126 : decode c_ErrataRow_ahead 126 = .ok (.getfield 192, 3) := by decide +kernel
theorem d_ErrataRow_ahead_129 : decode c_ErrataRow_ahead 129 = .ok (.ireturn, 1) := by decide +kernel
abbrev c_ErrataRow_allRight : ByteArray := prog_1_method_26_code
def y_ErrataRow_allRight : MethodName := ⟨RX11, "allRight", "()I"⟩
theorem d_ErrataRow_allRight_0 : decode c_ErrataRow_allRight 0 = .ok (.aload_n 0, 1) := by decide +kernel
theorem d_ErrataRow_allRight_1 : decode c_ErrataRow_allRight 1 = .ok (.getfield 45, 3) := by decide +kernel
theorem d_ErrataRow_allRight_4 : decode c_ErrataRow_allRight 4 = .ok (.getfield 62, 3) := by decide +kernel
theorem d_ErrataRow_allRight_7 : decode c_ErrataRow_allRight 7 = .ok (.getfield 160, 3) := by decide +kernel
theorem d_ErrataRow_allRight_10 : decode c_ErrataRow_allRight 10 = .ok (.ifCond .eq 11, 3) := by decide +kernel
theorem d_ErrataRow_allRight_13 : decode c_ErrataRow_allRight 13 = .ok (.aload_n 0, 1) := by decide +kernel
theorem d_ErrataRow_allRight_14 : decode c_ErrataRow_allRight 14 = .ok (.iconst (-1), 1) := by decide +kernel
theorem d_ErrataRow_allRight_15 : decode c_ErrataRow_allRight 15 = .ok (.invokevirtual 258, 3) := by decide +kernel
theorem d_ErrataRow_allRight_18 : decode c_ErrataRow_allRight 18 = .ok (.goto 4, 3) := by decide +kernel
theorem d_ErrataRow_allRight_21 : decode c_ErrataRow_allRight 21 = .ok (.iconst (-1), 1) := by decide +kernel
theorem d_ErrataRow_allRight_22 : decode c_ErrataRow_allRight 22 = .ok (.ireturn, 1) := by decide +kernel
abbrev c_ErrataRow_firstRight : ByteArray := prog_1_method_27_code
def y_ErrataRow_firstRight : MethodName := ⟨RX11, "firstRight", "(I)I"⟩
theorem d_ErrataRow_firstRight_0 : decode c_ErrataRow_firstRight 0 = .ok (.aload_n 0, 1) := by decide +kernel
theorem d_ErrataRow_firstRight_1 : decode c_ErrataRow_firstRight 1 = .ok (.iload_n 1, 1) := by decide +kernel
theorem d_ErrataRow_firstRight_2 : decode c_ErrataRow_firstRight 2 = .ok (.invokevirtual 141, 3) := by decide +kernel
theorem d_ErrataRow_firstRight_5 : decode c_ErrataRow_firstRight 5 = .ok (.ifCond .eq 13, 3) := by decide +kernel
theorem d_ErrataRow_firstRight_8 : decode c_ErrataRow_firstRight 8 = .ok (.aload_n 0, 1) := by decide +kernel
theorem d_ErrataRow_firstRight_9 : decode c_ErrataRow_firstRight 9 = .ok (.iconst 1, 1) := by decide +kernel
theorem d_ErrataRow_firstRight_10 : decode c_ErrataRow_firstRight 10 = .ok (.iload_n 1, 1) := by decide +kernel
theorem d_ErrataRow_firstRight_11 : decode c_ErrataRow_firstRight 11 = .ok (.ishl, 1) := by decide +kernel
theorem d_ErrataRow_firstRight_12 : decode c_ErrataRow_firstRight 12 = .ok (.invokevirtual 258, 3) := by decide +kernel
theorem d_ErrataRow_firstRight_15 : decode c_ErrataRow_firstRight 15 = .ok (.goto 4, 3) := by decide +kernel
theorem d_ErrataRow_firstRight_18 : decode c_ErrataRow_firstRight 18 = .ok (.iconst (-1), 1) := by decide +kernel
theorem d_ErrataRow_firstRight_19 : decode c_ErrataRow_firstRight 19 = .ok (.ireturn, 1) := by decide +kernel
abbrev c_ErrataRow_firstWithoutWrong : ByteArray := prog_1_method_28_code
def y_ErrataRow_firstWithoutWrong : MethodName := ⟨RX11, "firstWithoutWrong", "(I)I"⟩
theorem d_ErrataRow_firstWithoutWrong_0 : decode c_ErrataRow_firstWithoutWrong 0 = .ok (.aload_n 0, 1) := by decide +kernel
theorem d_ErrataRow_firstWithoutWrong_1 : decode c_ErrataRow_firstWithoutWrong 1 = .ok (.aload_n 0, 1) := by decide +kernel
theorem d_ErrataRow_firstWithoutWrong_2 : decode c_ErrataRow_firstWithoutWrong 2 = .ok (.getfield 45, 3) := by decide +kernel
theorem d_ErrataRow_firstWithoutWrong_5 : decode c_ErrataRow_firstWithoutWrong 5 = .ok (.getfield 145, 3) := by decide +kernel
theorem d_ErrataRow_firstWithoutWrong_8 : decode c_ErrataRow_firstWithoutWrong 8 = .ok (.invokevirtual 252, 3) := by decide +kernel
theorem d_ErrataRow_firstWithoutWrong_11 : decode c_ErrataRow_firstWithoutWrong 11 = .ok (.iconst 0, 1) := by decide +kernel
theorem d_ErrataRow_firstWithoutWrong_12 : decode c_ErrataRow_firstWithoutWrong 12 = .ok (.istore_n 2, 1) := by decide +kernel
theorem d_ErrataRow_firstWithoutWrong_13 : decode c_ErrataRow_firstWithoutWrong 13 = .ok (.iload_n 2, 1) := by decide +kernel
theorem d_ErrataRow_firstWithoutWrong_14 : decode c_ErrataRow_firstWithoutWrong 14 = .ok (.sipush 200, 3) := by decide +kernel
theorem d_ErrataRow_firstWithoutWrong_17 : decode c_ErrataRow_firstWithoutWrong 17 = .ok (.if_icmp .ge 47, 3) := by decide +kernel
theorem d_ErrataRow_firstWithoutWrong_20 : decode c_ErrataRow_firstWithoutWrong 20 = .ok (.aload_n 0, 1) := by decide +kernel
theorem d_ErrataRow_firstWithoutWrong_21 : decode c_ErrataRow_firstWithoutWrong 21 = .ok (.getfield 85, 3) := by decide +kernel
theorem d_ErrataRow_firstWithoutWrong_24 : decode c_ErrataRow_firstWithoutWrong 24 = .ok (.getfield 179, 3) := by decide +kernel
theorem d_ErrataRow_firstWithoutWrong_27 : decode c_ErrataRow_firstWithoutWrong 27 = .ok (.istore_n 3, 1) := by decide +kernel
theorem d_ErrataRow_firstWithoutWrong_28 : decode c_ErrataRow_firstWithoutWrong 28 = .ok (.aload_n 0, 1) := by decide +kernel
theorem d_ErrataRow_firstWithoutWrong_29 : decode c_ErrataRow_firstWithoutWrong 29 = .ok (.getfield 69, 3) := by decide +kernel
theorem d_ErrataRow_firstWithoutWrong_32 : decode c_ErrataRow_firstWithoutWrong 32 = .ok (.aload_n 0, 1) := by decide +kernel
theorem d_ErrataRow_firstWithoutWrong_33 : decode c_ErrataRow_firstWithoutWrong 33 = .ok (.getfield 85, 3) := by decide +kernel
theorem d_ErrataRow_firstWithoutWrong_36 : decode c_ErrataRow_firstWithoutWrong 36 = .ok (.invokevirtual 215, 3) := by decide +kernel
theorem d_ErrataRow_firstWithoutWrong_39 : decode c_ErrataRow_firstWithoutWrong 39 = .ok (.pop, 1) := by decide +kernel
theorem d_ErrataRow_firstWithoutWrong_40 : decode c_ErrataRow_firstWithoutWrong 40 = .ok (.aload_n 0, 1) := by decide +kernel
theorem d_ErrataRow_firstWithoutWrong_41 : decode c_ErrataRow_firstWithoutWrong 41 = .ok (.getfield 69, 3) := by decide +kernel
theorem d_ErrataRow_firstWithoutWrong_44 : decode c_ErrataRow_firstWithoutWrong 44 = .ok (.aload_n 0, 1) := by decide +kernel
theorem d_ErrataRow_firstWithoutWrong_45 : decode c_ErrataRow_firstWithoutWrong 45 = .ok (.getfield 85, 3) := by decide +kernel
theorem d_ErrataRow_firstWithoutWrong_48 : decode c_ErrataRow_firstWithoutWrong 48 = .ok (.invokevirtual 182, 3) := by decide +kernel
theorem d_ErrataRow_firstWithoutWrong_51 : decode c_ErrataRow_firstWithoutWrong 51 = .ok (.iload_n 1, 1) := by decide +kernel
theorem d_ErrataRow_firstWithoutWrong_52 : decode c_ErrataRow_firstWithoutWrong 52 = .ok (.iand, 1) := by decide +kernel
theorem d_ErrataRow_firstWithoutWrong_53 : decode c_ErrataRow_firstWithoutWrong 53 = .ok (.ifCond .ne 5, 3) := by decide +kernel
theorem d_ErrataRow_firstWithoutWrong_56 : decode c_ErrataRow_firstWithoutWrong 56 = .ok (.iload_n 3, 1) := by decide +kernel
theorem d_ErrataRow_firstWithoutWrong_57 : decode c_ErrataRow_firstWithoutWrong 57 = .ok (.ireturn, 1) := by decide +kernel
theorem d_ErrataRow_firstWithoutWrong_58 : decode c_ErrataRow_firstWithoutWrong 58 = .ok (.iinc 2 1, 3) := by decide +kernel
theorem d_ErrataRow_firstWithoutWrong_61 : decode c_ErrataRow_firstWithoutWrong 61 = .ok (.goto (-48), 3) := by decide +kernel
theorem d_ErrataRow_firstWithoutWrong_64 : decode c_ErrataRow_firstWithoutWrong 64 = .ok (.bipush (-2), 2) := by decide +kernel
theorem d_ErrataRow_firstWithoutWrong_66 : decode c_ErrataRow_firstWithoutWrong 66 = .ok (.ireturn, 1) := by decide +kernel
abbrev c_ErrataRow_unpaid : ByteArray := prog_1_method_29_code
def y_ErrataRow_unpaid : MethodName := ⟨RX11, "unpaid", "(I)I"⟩
theorem d_ErrataRow_unpaid_0 : decode c_ErrataRow_unpaid 0 = .ok (.aload_n 0, 1) := by decide +kernel
theorem d_ErrataRow_unpaid_1 : decode c_ErrataRow_unpaid 1 = .ok (.getfield 45, 3) := by decide +kernel
theorem d_ErrataRow_unpaid_4 : decode c_ErrataRow_unpaid 4 = .ok (.getfield 62, 3) := by decide +kernel
theorem d_ErrataRow_unpaid_7 : decode c_ErrataRow_unpaid 7 = .ok (.getfield 160, 3) := by decide +kernel
theorem d_ErrataRow_unpaid_10 : decode c_ErrataRow_unpaid 10 = .ok (.ifCond .eq 12, 3) := by decide +kernel
theorem d_ErrataRow_unpaid_13 : decode c_ErrataRow_unpaid 13 = .ok (.iload_n 1, 1) := by decide +kernel
theorem d_ErrataRow_unpaid_14 : decode c_ErrataRow_unpaid 14 = .ok (.iconst 0, 1) := by decide +kernel
theorem d_ErrataRow_unpaid_15 : decode c_ErrataRow_unpaid 15 = .ok (.iconst 1, 1) := by decide +kernel
theorem d_ErrataRow_unpaid_16 : decode c_ErrataRow_unpaid 16 = .ok (.invokestatic 166, 3) := by decide +kernel
theorem d_ErrataRow_unpaid_19 : decode c_ErrataRow_unpaid 19 = .ok (.ifCond .ne 5, 3) := by decide +kernel
theorem d_ErrataRow_unpaid_22 : decode c_ErrataRow_unpaid 22 = .ok (.iconst (-1), 1) := by decide +kernel
theorem d_ErrataRow_unpaid_23 : decode c_ErrataRow_unpaid 23 = .ok (.ireturn, 1) := by decide +kernel
theorem d_ErrataRow_unpaid_24 : decode c_ErrataRow_unpaid 24 = .ok (.aload_n 0, 1) := by decide +kernel
theorem d_ErrataRow_unpaid_25 : decode c_ErrataRow_unpaid 25 = .ok (.aload_n 0, 1) := by decide +kernel
theorem d_ErrataRow_unpaid_26 : decode c_ErrataRow_unpaid 26 = .ok (.getfield 45, 3) := by decide +kernel
theorem d_ErrataRow_unpaid_29 : decode c_ErrataRow_unpaid 29 = .ok (.getfield 145, 3) := by decide +kernel
theorem d_ErrataRow_unpaid_32 : decode c_ErrataRow_unpaid 32 = .ok (.invokevirtual 252, 3) := by decide +kernel
theorem d_ErrataRow_unpaid_35 : decode c_ErrataRow_unpaid 35 = .ok (.iconst 0, 1) := by decide +kernel
theorem d_ErrataRow_unpaid_36 : decode c_ErrataRow_unpaid 36 = .ok (.istore_n 2, 1) := by decide +kernel
theorem d_ErrataRow_unpaid_37 : decode c_ErrataRow_unpaid 37 = .ok (.iload_n 2, 1) := by decide +kernel
theorem d_ErrataRow_unpaid_38 : decode c_ErrataRow_unpaid 38 = .ok (.sipush 200, 3) := by decide +kernel
theorem d_ErrataRow_unpaid_41 : decode c_ErrataRow_unpaid 41 = .ok (.if_icmp .ge 58, 3) := by decide +kernel
theorem d_ErrataRow_unpaid_44 : decode c_ErrataRow_unpaid 44 = .ok (.aload_n 0, 1) := by decide +kernel
theorem d_ErrataRow_unpaid_45 : decode c_ErrataRow_unpaid 45 = .ok (.getfield 85, 3) := by decide +kernel
theorem d_ErrataRow_unpaid_48 : decode c_ErrataRow_unpaid 48 = .ok (.getfield 179, 3) := by decide +kernel
theorem d_ErrataRow_unpaid_51 : decode c_ErrataRow_unpaid 51 = .ok (.istore_n 3, 1) := by decide +kernel
theorem d_ErrataRow_unpaid_52 : decode c_ErrataRow_unpaid 52 = .ok (.aload_n 0, 1) := by decide +kernel
theorem d_ErrataRow_unpaid_53 : decode c_ErrataRow_unpaid 53 = .ok (.getfield 69, 3) := by decide +kernel
theorem d_ErrataRow_unpaid_56 : decode c_ErrataRow_unpaid 56 = .ok (.aload_n 0, 1) := by decide +kernel
theorem d_ErrataRow_unpaid_57 : decode c_ErrataRow_unpaid 57 = .ok (.getfield 85, 3) := by decide +kernel
theorem d_ErrataRow_unpaid_60 : decode c_ErrataRow_unpaid 60 = .ok (.invokevirtual 215, 3) := by decide +kernel
theorem d_ErrataRow_unpaid_63 : decode c_ErrataRow_unpaid 63 = .ok (.pop, 1) := by decide +kernel
theorem d_ErrataRow_unpaid_64 : decode c_ErrataRow_unpaid 64 = .ok (.aload_n 0, 1) := by decide +kernel
theorem d_ErrataRow_unpaid_65 : decode c_ErrataRow_unpaid 65 = .ok (.getfield 69, 3) := by decide +kernel
theorem d_ErrataRow_unpaid_68 : decode c_ErrataRow_unpaid 68 = .ok (.getfield 262, 3) := by decide +kernel
theorem d_ErrataRow_unpaid_71 : decode c_ErrataRow_unpaid 71 = .ok (.ifCond .eq 22, 3) := by decide +kernel
theorem d_ErrataRow_unpaid_74 : decode c_ErrataRow_unpaid 74 = .ok (.iload_n 1, 1) := by decide +kernel
theorem d_ErrataRow_unpaid_75 : decode c_ErrataRow_unpaid 75 = .ok (.ifCond .ne 7, 3) := by decide +kernel
theorem d_ErrataRow_unpaid_78 : decode c_ErrataRow_unpaid 78 = .ok (.iload_n 3, 1) := by decide +kernel
theorem d_ErrataRow_unpaid_79 : decode c_ErrataRow_unpaid 79 = .ok (.goto 13, 3) := by decide +kernel
theorem d_ErrataRow_unpaid_82 : decode c_ErrataRow_unpaid 82 = .ok (.aload_n 0, 1) := by decide +kernel
theorem d_ErrataRow_unpaid_83 : decode c_ErrataRow_unpaid 83 = .ok (.getfield 69, 3) := by decide +kernel
theorem d_ErrataRow_unpaid_86 : decode c_ErrataRow_unpaid 86 = .ok (.getfield 262, 3) := by decide +kernel
theorem d_ErrataRow_unpaid_89 : decode c_ErrataRow_unpaid 89 = .ok (.invokestatic 265, 3) := by decide +kernel
theorem d_ErrataRow_unpaid_92 : decode c_ErrataRow_unpaid 92 = .ok (.ireturn, 1) := by decide +kernel
theorem d_ErrataRow_unpaid_93 : decode c_ErrataRow_unpaid 93 = .ok (.iinc 2 1, 3) := by decide +kernel
theorem d_ErrataRow_unpaid_96 : decode c_ErrataRow_unpaid 96 = .ok (.goto (-59), 3) := by decide +kernel
theorem d_ErrataRow_unpaid_99 : decode c_ErrataRow_unpaid 99 = .ok (.bipush (-2), 2) := by decide +kernel
theorem d_ErrataRow_unpaid_101 : decode c_ErrataRow_unpaid 101 = .ok (.ireturn, 1) := by decide +kernel
abbrev c_ErrataRow_row : ByteArray := prog_1_method_30_code
def y_ErrataRow_row : MethodName := ⟨RX11, "row", "(II)I"⟩
theorem d_ErrataRow_row_0 : decode c_ErrataRow_row 0 = .ok (.aload_n 0, 1) := by decide +kernel
theorem d_ErrataRow_row_1 : decode c_ErrataRow_row 1 = .ok (.getfield 45, 3) := by decide +kernel
theorem d_ErrataRow_row_4 : decode c_ErrataRow_row 4 = .ok (.getfield 62, 3) := by decide +kernel
theorem d_ErrataRow_row_7 : decode c_ErrataRow_row 7 = .ok (.getfield 160, 3) := by decide +kernel
theorem d_ErrataRow_row_10 : decode c_ErrataRow_row 10 = .ok (.ifCond .eq 21, 3) := by decide +kernel
theorem d_ErrataRow_row_13 : decode c_ErrataRow_row 13 = .ok (.iload_n 1, 1) := by decide +kernel
theorem d_ErrataRow_row_14 : decode c_ErrataRow_row 14 = .ok (.iconst 1, 1) := by decide +kernel
theorem d_ErrataRow_row_15 : decode c_ErrataRow_row 15 = .ok (.iconst 4, 1) := by decide +kernel
theorem d_ErrataRow_row_16 : decode c_ErrataRow_row 16 = .ok (.invokestatic 166, 3) := by decide +kernel
theorem d_ErrataRow_row_19 : decode c_ErrataRow_row 19 = .ok (.ifCond .eq 12, 3) := by decide +kernel
theorem d_ErrataRow_row_22 : decode c_ErrataRow_row 22 = .ok (.iload_n 2, 1) := by decide +kernel
theorem d_ErrataRow_row_23 : decode c_ErrataRow_row 23 = .ok (.iconst 0, 1) := by decide +kernel
theorem d_ErrataRow_row_24 : decode c_ErrataRow_row 24 = .ok (.iconst 4, 1) := by decide +kernel
theorem d_ErrataRow_row_25 : decode c_ErrataRow_row 25 = .ok (.invokestatic 166, 3) := by decide +kernel
theorem d_ErrataRow_row_28 : decode c_ErrataRow_row 28 = .ok (.ifCond .ne 6, 3) := by decide +kernel
theorem d_ErrataRow_row_31 : decode c_ErrataRow_row 31 = .ok (.bipush (-3), 2) := by decide +kernel
theorem d_ErrataRow_row_33 : decode c_ErrataRow_row 33 = .ok (.ireturn, 1) := by decide +kernel
theorem d_ErrataRow_row_34 : decode c_ErrataRow_row 34 = .ok (.iload_n 2, 1) := by decide +kernel
theorem d_ErrataRow_row_35 : decode c_ErrataRow_row 35 = .ok (.iload_n 1, 1) := by decide +kernel
theorem d_ErrataRow_row_36 : decode c_ErrataRow_row 36 = .ok (.if_icmp .le 6, 3) := by decide +kernel
theorem d_ErrataRow_row_39 : decode c_ErrataRow_row 39 = .ok (.bipush (-2), 2) := by decide +kernel
theorem d_ErrataRow_row_41 : decode c_ErrataRow_row 41 = .ok (.ireturn, 1) := by decide +kernel
theorem d_ErrataRow_row_42 : decode c_ErrataRow_row 42 = .ok (.aload_n 0, 1) := by decide +kernel
theorem d_ErrataRow_row_43 : decode c_ErrataRow_row 43 = .ok (.iconst (-1), 1) := by decide +kernel
theorem d_ErrataRow_row_44 : decode c_ErrataRow_row 44 = .ok (.invokevirtual 212, 3) := by decide +kernel
theorem d_ErrataRow_row_47 : decode c_ErrataRow_row 47 = .ok (.aload_n 0, 1) := by decide +kernel
theorem d_ErrataRow_row_48 : decode c_ErrataRow_row 48 = .ok (.getfield 78, 3) := by decide +kernel
theorem d_ErrataRow_row_51 : decode c_ErrataRow_row 51 = .ok (.aload_n 0, 1) := by decide +kernel
theorem d_ErrataRow_row_52 : decode c_ErrataRow_row 52 = .ok (.getfield 45, 3) := by decide +kernel
theorem d_ErrataRow_row_55 : decode c_ErrataRow_row 55 = .ok (.getfield 145, 3) := by decide +kernel
theorem d_ErrataRow_row_58 : decode c_ErrataRow_row 58 = .ok (.iload_n 1, 1) := by decide +kernel
theorem d_ErrataRow_row_59 : decode c_ErrataRow_row 59 = .ok (.invokevirtual 270, 3) := by decide +kernel
theorem d_ErrataRow_row_62 : decode c_ErrataRow_row 62 = .ok (.iload_n 2, 1) := by decide +kernel
theorem d_ErrataRow_row_63 : decode c_ErrataRow_row 63 = .ok (.ifCond .ne 13, 3) := by decide +kernel
theorem d_ErrataRow_row_66 : decode c_ErrataRow_row 66 = .ok (.aload_n 0, 1) := by decide +kernel
theorem d_ErrataRow_row_67 : decode c_ErrataRow_row 67 = .ok (.getfield 78, 3) := by decide +kernel
theorem d_ErrataRow_row_70 : decode c_ErrataRow_row 70 = .ok (.getfield 274, 3) := by decide +kernel
theorem d_ErrataRow_row_73 : decode c_ErrataRow_row 73 = .ok (.goto 14, 3) := by decide +kernel
theorem d_ErrataRow_row_76 : decode c_ErrataRow_row 76 = .ok (.aload_n 0, 1) := by decide +kernel
theorem d_ErrataRow_row_77 : decode c_ErrataRow_row 77 = .ok (.getfield 78, 3) := by decide +kernel
theorem d_ErrataRow_row_80 : decode c_ErrataRow_row 80 = .ok (.getfield 277, 3) := by decide +kernel
theorem d_ErrataRow_row_83 : decode c_ErrataRow_row 83 = .ok (.iload_n 2, 1) := by decide +kernel
theorem d_ErrataRow_row_84 : decode c_ErrataRow_row 84 = .ok (.iconst 1, 1) := by decide +kernel
theorem d_ErrataRow_row_85 : decode c_ErrataRow_row 85 = .ok (.isub, 1) := by decide +kernel
theorem d_ErrataRow_row_86 : decode c_ErrataRow_row 86 = .ok (.iaload, 1) := by decide +kernel
theorem d_ErrataRow_row_87 : decode c_ErrataRow_row 87 = .ok (.ireturn, 1) := by decide +kernel
abbrev c_ErrataRow_ring : ByteArray := prog_1_method_31_code
def y_ErrataRow_ring : MethodName := ⟨RX11, "ring", "(I)I"⟩
theorem d_ErrataRow_ring_0 : decode c_ErrataRow_ring 0 = .ok (.aload_n 0, 1) := by decide +kernel
theorem d_ErrataRow_ring_1 : decode c_ErrataRow_ring 1 = .ok (.getfield 45, 3) := by decide +kernel
theorem d_ErrataRow_ring_4 : decode c_ErrataRow_ring 4 = .ok (.getfield 62, 3) := by decide +kernel
theorem d_ErrataRow_ring_7 : decode c_ErrataRow_ring 7 = .ok (.getfield 160, 3) := by decide +kernel
theorem d_ErrataRow_ring_10 : decode c_ErrataRow_ring 10 = .ok (.ifCond .eq 12, 3) := by decide +kernel
theorem d_ErrataRow_ring_13 : decode c_ErrataRow_ring 13 = .ok (.iload_n 1, 1) := by decide +kernel
theorem d_ErrataRow_ring_14 : decode c_ErrataRow_ring 14 = .ok (.iconst 0, 1) := by decide +kernel
theorem d_ErrataRow_ring_15 : decode c_ErrataRow_ring 15 = .ok (.iconst 1, 1) := by decide +kernel
theorem d_ErrataRow_ring_16 : decode c_ErrataRow_ring 16 = .ok (.invokestatic 166, 3) := by decide +kernel
theorem d_ErrataRow_ring_19 : decode c_ErrataRow_ring 19 = .ok (.ifCond .ne 5, 3) := by decide +kernel
theorem d_ErrataRow_ring_22 : decode c_ErrataRow_ring 22 = .ok (.iconst (-1), 1) := by decide +kernel
theorem d_ErrataRow_ring_23 : decode c_ErrataRow_ring 23 = .ok (.ireturn, 1) := by decide +kernel
theorem d_ErrataRow_ring_24 : decode c_ErrataRow_ring 24 = .ok (.aload_n 0, 1) := by decide +kernel
theorem d_ErrataRow_ring_25 : decode c_ErrataRow_ring 25 = .ok (.aload_n 0, 1) := by decide +kernel
theorem d_ErrataRow_ring_26 : decode c_ErrataRow_ring 26 = .ok (.getfield 45, 3) := by decide +kernel
theorem d_ErrataRow_ring_29 : decode c_ErrataRow_ring 29 = .ok (.getfield 145, 3) := by decide +kernel
theorem d_ErrataRow_ring_32 : decode c_ErrataRow_ring 32 = .ok (.invokevirtual 252, 3) := by decide +kernel
theorem d_ErrataRow_ring_35 : decode c_ErrataRow_ring 35 = .ok (.iconst 0, 1) := by decide +kernel
theorem d_ErrataRow_ring_36 : decode c_ErrataRow_ring 36 = .ok (.istore_n 2, 1) := by decide +kernel
theorem d_ErrataRow_ring_37 : decode c_ErrataRow_ring 37 = .ok (.iload_n 2, 1) := by decide +kernel
theorem d_ErrataRow_ring_38 : decode c_ErrataRow_ring 38 = .ok (.bipush 60, 2) := by decide +kernel
theorem d_ErrataRow_ring_40 : decode c_ErrataRow_ring 40 = .ok (.if_icmp .gt 37, 3) := by decide +kernel
theorem d_ErrataRow_ring_43 : decode c_ErrataRow_ring 43 = .ok (.aload_n 0, 1) := by decide +kernel
theorem d_ErrataRow_ring_44 : decode c_ErrataRow_ring 44 = .ok (.getfield 92, 3) := by decide +kernel
theorem d_ErrataRow_ring_47 : decode c_ErrataRow_ring 47 = .ok (.iload_n 2, 1) := by decide +kernel
theorem d_ErrataRow_ring_48 : decode c_ErrataRow_ring 48 = .ok (.aload_n 0, 1) := by decide +kernel
theorem d_ErrataRow_ring_49 : decode c_ErrataRow_ring 49 = .ok (.getfield 85, 3) := by decide +kernel
theorem d_ErrataRow_ring_52 : decode c_ErrataRow_ring 52 = .ok (.getfield 148, 3) := by decide +kernel
theorem d_ErrataRow_ring_55 : decode c_ErrataRow_ring 55 = .ok (.invokestatic 280, 3) := by decide +kernel
theorem d_ErrataRow_ring_58 : decode c_ErrataRow_ring 58 = .ok (.iastore, 1) := by decide +kernel
theorem d_ErrataRow_ring_59 : decode c_ErrataRow_ring 59 = .ok (.aload_n 0, 1) := by decide +kernel
theorem d_ErrataRow_ring_60 : decode c_ErrataRow_ring 60 = .ok (.getfield 69, 3) := by decide +kernel
theorem d_ErrataRow_ring_63 : decode c_ErrataRow_ring 63 = .ok (.aload_n 0, 1) := by decide +kernel
theorem d_ErrataRow_ring_64 : decode c_ErrataRow_ring 64 = .ok (.getfield 85, 3) := by decide +kernel
theorem d_ErrataRow_ring_67 : decode c_ErrataRow_ring 67 = .ok (.invokevirtual 215, 3) := by decide +kernel
theorem d_ErrataRow_ring_70 : decode c_ErrataRow_ring 70 = .ok (.pop, 1) := by decide +kernel
theorem d_ErrataRow_ring_71 : decode c_ErrataRow_ring 71 = .ok (.iinc 2 1, 3) := by decide +kernel
theorem d_ErrataRow_ring_74 : decode c_ErrataRow_ring 74 = .ok (.goto (-37), 3) := by decide +kernel
theorem d_ErrataRow_ring_77 : decode c_ErrataRow_ring 77 = .ok (.aload_n 0, 1) := by decide +kernel
theorem d_ErrataRow_ring_78 : decode c_ErrataRow_ring 78 = .ok (.getfield 45, 3) := by decide +kernel
theorem d_ErrataRow_ring_81 : decode c_ErrataRow_ring 81 = .ok (.getfield 62, 3) := by decide +kernel
theorem d_ErrataRow_ring_84 : decode c_ErrataRow_ring 84 = .ok (.invokevirtual 163, 3) := by decide +kernel
theorem d_ErrataRow_ring_87 : decode c_ErrataRow_ring 87 = .ok (.istore_n 2, 1) := by decide +kernel
theorem d_ErrataRow_ring_88 : decode c_ErrataRow_ring 88 = .ok (.iconst 0, 1) := by decide +kernel
theorem d_ErrataRow_ring_89 : decode c_ErrataRow_ring 89 = .ok (.istore_n 3, 1) := by decide +kernel
theorem d_ErrataRow_ring_90 : decode c_ErrataRow_ring 90 = .ok (.iload_n 3, 1) := by decide +kernel
theorem d_ErrataRow_ring_91 : decode c_ErrataRow_ring 91 = .ok (.bipush 60, 2) := by decide +kernel
theorem d_ErrataRow_ring_93 : decode c_ErrataRow_ring 93 = .ok (.if_icmp .ge 70, 3) := by decide +kernel
theorem d_ErrataRow_ring_96 : decode c_ErrataRow_ring 96 = .ok (.iload_n 2, 1) := by decide +kernel
theorem d_ErrataRow_ring_97 : decode c_ErrataRow_ring 97 = .ok (.istore 4, 2) := by decide +kernel
theorem d_ErrataRow_ring_99 : decode c_ErrataRow_ring 99 = .ok (.iload_n 3, 1) := by decide +kernel
theorem d_ErrataRow_ring_100 : decode c_ErrataRow_ring 100 = .ok (.iload 4, 2) := by decide +kernel
theorem d_ErrataRow_ring_102 : decode c_ErrataRow_ring 102 = .ok (.iadd, 1) := by decide +kernel
theorem d_ErrataRow_ring_103 : decode c_ErrataRow_ring 103 = .ok (.bipush 60, 2) := by decide +kernel
theorem d_ErrataRow_ring_105 : decode c_ErrataRow_ring 105 = .ok (.if_icmp .gt 52, 3) := by decide +kernel
theorem d_ErrataRow_ring_108 : decode c_ErrataRow_ring 108 = .ok (.aload_n 0, 1) := by decide +kernel
theorem d_ErrataRow_ring_109 : decode c_ErrataRow_ring 109 = .ok (.getfield 92, 3) := by decide +kernel
theorem d_ErrataRow_ring_112 : decode c_ErrataRow_ring 112 = .ok (.iload_n 3, 1) := by decide +kernel
theorem d_ErrataRow_ring_113 : decode c_ErrataRow_ring 113 = .ok (.iaload, 1) := by decide +kernel
theorem d_ErrataRow_ring_114 : decode c_ErrataRow_ring 114 = .ok (.aload_n 0, 1) := by decide +kernel
theorem d_ErrataRow_ring_115 : decode c_ErrataRow_ring 115 = .ok (.getfield 92, 3) := by decide +kernel
theorem d_ErrataRow_ring_118 : decode c_ErrataRow_ring 118 = .ok (.iload_n 3, 1) := by decide +kernel
theorem d_ErrataRow_ring_119 : decode c_ErrataRow_ring 119 = .ok (.iload 4, 2) := by decide +kernel
theorem d_ErrataRow_ring_121 : decode c_ErrataRow_ring 121 = .ok (.iadd, 1) := by decide +kernel
theorem d_ErrataRow_ring_122 : decode c_ErrataRow_ring 122 = .ok (.iaload, 1) := by decide +kernel
theorem d_ErrataRow_ring_123 : decode c_ErrataRow_ring 123 = .ok (.if_icmp .ne 25, 3) := by decide +kernel
theorem d_ErrataRow_ring_126 : decode c_ErrataRow_ring 126 = .ok (.iload_n 1, 1) := by decide +kernel
theorem d_ErrataRow_ring_127 : decode c_ErrataRow_ring 127 = .ok (.ifCond .ne 18, 3) := by decide +kernel
theorem d_ErrataRow_ring_130 : decode c_ErrataRow_ring 130 = .ok (.aload_n 0, 1) := by decide +kernel
theorem d_ErrataRow_ring_131 : decode c_ErrataRow_ring 131 = .ok (.getfield 45, 3) := by decide +kernel
theorem d_ErrataRow_ring_134 : decode c_ErrataRow_ring 134 = .ok (.getfield 145, 3) := by decide +kernel
theorem d_ErrataRow_ring_137 : decode c_ErrataRow_ring 137 = .ok (.getfield 179, 3) := by decide +kernel
theorem d_ErrataRow_ring_140 : decode c_ErrataRow_ring 140 = .ok (.iload_n 3, 1) := by decide +kernel
theorem d_ErrataRow_ring_141 : decode c_ErrataRow_ring 141 = .ok (.iadd, 1) := by decide +kernel
theorem d_ErrataRow_ring_142 : decode c_ErrataRow_ring 142 = .ok (.goto 5, 3) := by decide +kernel
theorem d_ErrataRow_ring_145 : decode c_ErrataRow_ring 145 = .ok (.iload 4, 2) := by decide +kernel
theorem d_ErrataRow_ring_147 : decode c_ErrataRow_ring 147 = .ok (.ireturn, 1) := by decide +kernel
theorem d_ErrataRow_ring_148 : decode c_ErrataRow_ring 148 = .ok (.iload 4, 2) := by decide +kernel
theorem d_ErrataRow_ring_150 : decode c_ErrataRow_ring 150 = .ok (.iload_n 2, 1) := by decide +kernel
theorem d_ErrataRow_ring_151 : decode c_ErrataRow_ring 151 = .ok (.iadd, 1) := by decide +kernel
theorem d_ErrataRow_ring_152 : decode c_ErrataRow_ring 152 = .ok (.istore 4, 2) := by decide +kernel
theorem d_ErrataRow_ring_154 : decode c_ErrataRow_ring 154 = .ok (.goto (-55), 3) := by decide +kernel
theorem d_ErrataRow_ring_157 : decode c_ErrataRow_ring 157 = .ok (.iinc 3 1, 3) := by decide +kernel
theorem d_ErrataRow_ring_160 : decode c_ErrataRow_ring 160 = .ok (.goto (-70), 3) := by decide +kernel
theorem d_ErrataRow_ring_163 : decode c_ErrataRow_ring 163 = .ok (.bipush (-2), 2) := by decide +kernel
theorem d_ErrataRow_ring_165 : decode c_ErrataRow_ring 165 = .ok (.ireturn, 1) := by decide +kernel
abbrev c_ErrataRow_packed : ByteArray := prog_1_method_32_code
def y_ErrataRow_packed : MethodName := ⟨RX11, "packed", "([I)I"⟩
theorem d_ErrataRow_packed_0 : decode c_ErrataRow_packed 0 = .ok (.iconst 0, 1) := by decide +kernel
theorem d_ErrataRow_packed_1 : decode c_ErrataRow_packed 1 = .ok (.istore_n 1, 1) := by decide +kernel
theorem d_ErrataRow_packed_2 : decode c_ErrataRow_packed 2 = .ok (.iconst 0, 1) := by decide +kernel
theorem d_ErrataRow_packed_3 : decode c_ErrataRow_packed 3 = .ok (.istore_n 2, 1) := by decide +kernel
theorem d_ErrataRow_packed_4 : decode c_ErrataRow_packed 4 = .ok (.iload_n 2, 1) := by decide +kernel
theorem d_ErrataRow_packed_5 : decode c_ErrataRow_packed 5 = .ok (.aload_n 0, 1) := by decide +kernel
theorem d_ErrataRow_packed_6 : decode c_ErrataRow_packed 6 = .ok (.arraylength, 1) := by decide +kernel
theorem d_ErrataRow_packed_7 : decode c_ErrataRow_packed 7 = .ok (.if_icmp .ge 17, 3) := by decide +kernel
theorem d_ErrataRow_packed_10 : decode c_ErrataRow_packed 10 = .ok (.iload_n 1, 1) := by decide +kernel
theorem d_ErrataRow_packed_11 : decode c_ErrataRow_packed 11 = .ok (.iconst 3, 1) := by decide +kernel
theorem d_ErrataRow_packed_12 : decode c_ErrataRow_packed 12 = .ok (.ishl, 1) := by decide +kernel
theorem d_ErrataRow_packed_13 : decode c_ErrataRow_packed 13 = .ok (.aload_n 0, 1) := by decide +kernel
theorem d_ErrataRow_packed_14 : decode c_ErrataRow_packed 14 = .ok (.iload_n 2, 1) := by decide +kernel
theorem d_ErrataRow_packed_15 : decode c_ErrataRow_packed 15 = .ok (.iaload, 1) := by decide +kernel
theorem d_ErrataRow_packed_16 : decode c_ErrataRow_packed 16 = .ok (.ior, 1) := by decide +kernel
theorem d_ErrataRow_packed_17 : decode c_ErrataRow_packed 17 = .ok (.istore_n 1, 1) := by decide +kernel
theorem d_ErrataRow_packed_18 : decode c_ErrataRow_packed 18 = .ok (.iinc 2 1, 3) := by decide +kernel
theorem d_ErrataRow_packed_21 : decode c_ErrataRow_packed 21 = .ok (.goto (-17), 3) := by decide +kernel
theorem d_ErrataRow_packed_24 : decode c_ErrataRow_packed 24 = .ok (.iload_n 1, 1) := by decide +kernel
theorem d_ErrataRow_packed_25 : decode c_ErrataRow_packed 25 = .ok (.ireturn, 1) := by decide +kernel
abbrev c_ErrataRow_rings : ByteArray := prog_1_method_33_code
def y_ErrataRow_rings : MethodName := ⟨RX11, "rings", "()I"⟩
theorem d_ErrataRow_rings_0 : decode c_ErrataRow_rings 0 = .ok (.aload_n 0, 1) := by decide +kernel
theorem d_ErrataRow_rings_1 : decode c_ErrataRow_rings 1 = .ok (.getfield 45, 3) := by decide +kernel
theorem d_ErrataRow_rings_4 : decode c_ErrataRow_rings 4 = .ok (.getfield 62, 3) := by decide +kernel
theorem d_ErrataRow_rings_7 : decode c_ErrataRow_rings 7 = .ok (.getfield 160, 3) := by decide +kernel
theorem d_ErrataRow_rings_10 : decode c_ErrataRow_rings 10 = .ok (.ifCond .ne 5, 3) := by decide +kernel
theorem d_ErrataRow_rings_13 : decode c_ErrataRow_rings 13 = .ok (.iconst (-1), 1) := by decide +kernel
theorem d_ErrataRow_rings_14 : decode c_ErrataRow_rings 14 = .ok (.ireturn, 1) := by decide +kernel
theorem d_ErrataRow_rings_15 : decode c_ErrataRow_rings 15 = .ok (.aload_n 0, 1) := by decide +kernel
theorem d_ErrataRow_rings_16 : decode c_ErrataRow_rings 16 = .ok (.getfield 69, 3) := by decide +kernel
theorem d_ErrataRow_rings_19 : decode c_ErrataRow_rings 19 = .ok (.aload_n 0, 1) := by decide +kernel
theorem d_ErrataRow_rings_20 : decode c_ErrataRow_rings 20 = .ok (.getfield 45, 3) := by decide +kernel
theorem d_ErrataRow_rings_23 : decode c_ErrataRow_rings 23 = .ok (.getfield 145, 3) := by decide +kernel
theorem d_ErrataRow_rings_26 : decode c_ErrataRow_rings 26 = .ok (.invokevirtual 182, 3) := by decide +kernel
theorem d_ErrataRow_rings_29 : decode c_ErrataRow_rings 29 = .ok (.istore_n 1, 1) := by decide +kernel
theorem d_ErrataRow_rings_30 : decode c_ErrataRow_rings 30 = .ok (.iconst 0, 1) := by decide +kernel
theorem d_ErrataRow_rings_31 : decode c_ErrataRow_rings 31 = .ok (.istore_n 2, 1) := by decide +kernel
theorem d_ErrataRow_rings_32 : decode c_ErrataRow_rings 32 = .ok (.iconst 0, 1) := by decide +kernel
theorem d_ErrataRow_rings_33 : decode c_ErrataRow_rings 33 = .ok (.istore_n 3, 1) := by decide +kernel
theorem d_ErrataRow_rings_34 : decode c_ErrataRow_rings 34 = .ok (.iload_n 3, 1) := by decide +kernel
theorem d_ErrataRow_rings_35 : decode c_ErrataRow_rings 35 = .ok (.aload_n 0, 1) := by decide +kernel
theorem d_ErrataRow_rings_36 : decode c_ErrataRow_rings 36 = .ok (.getfield 45, 3) := by decide +kernel
theorem d_ErrataRow_rings_39 : decode c_ErrataRow_rings 39 = .ok (.getfield 62, 3) := by decide +kernel
theorem d_ErrataRow_rings_42 : decode c_ErrataRow_rings 42 = .ok (.getfield 123, 3) := by decide +kernel
theorem d_ErrataRow_rings_45 : decode c_ErrataRow_rings 45 = .ok (.if_icmp .ge 36, 3) := by decide +kernel
theorem d_ErrataRow_rings_48 : decode c_ErrataRow_rings 48 = .ok (.iload_n 1, 1) := by decide +kernel
theorem d_ErrataRow_rings_49 : decode c_ErrataRow_rings 49 = .ok (.iload_n 3, 1) := by decide +kernel
theorem d_ErrataRow_rings_50 : decode c_ErrataRow_rings 50 = .ok (.invokestatic 221, 3) := by decide +kernel
theorem d_ErrataRow_rings_53 : decode c_ErrataRow_rings 53 = .ok (.ifCond .eq 22, 3) := by decide +kernel
theorem d_ErrataRow_rings_56 : decode c_ErrataRow_rings 56 = .ok (.aload_n 0, 1) := by decide +kernel
theorem d_ErrataRow_rings_57 : decode c_ErrataRow_rings 57 = .ok (.iload_n 3, 1) := by decide +kernel
theorem d_ErrataRow_rings_58 : decode c_ErrataRow_rings 58 = .ok (.iload_n 1, 1) := by decide +kernel
theorem d_ErrataRow_rings_59 : decode c_ErrataRow_rings 59 = .ok (.invokevirtual 284, 3) := by decide +kernel
theorem d_ErrataRow_rings_62 : decode c_ErrataRow_rings 62 = .ok (.iload_n 3, 1) := by decide +kernel
theorem d_ErrataRow_rings_63 : decode c_ErrataRow_rings 63 = .ok (.invokestatic 221, 3) := by decide +kernel
theorem d_ErrataRow_rings_66 : decode c_ErrataRow_rings 66 = .ok (.ifCond .eq 9, 3) := by decide +kernel
theorem d_ErrataRow_rings_69 : decode c_ErrataRow_rings 69 = .ok (.iload_n 2, 1) := by decide +kernel
theorem d_ErrataRow_rings_70 : decode c_ErrataRow_rings 70 = .ok (.iconst 1, 1) := by decide +kernel
theorem d_ErrataRow_rings_71 : decode c_ErrataRow_rings 71 = .ok (.iload_n 3, 1) := by decide +kernel
theorem d_ErrataRow_rings_72 : decode c_ErrataRow_rings 72 = .ok (.ishl, 1) := by decide +kernel
theorem d_ErrataRow_rings_73 : decode c_ErrataRow_rings 73 = .ok (.ior, 1) := by decide +kernel
theorem d_ErrataRow_rings_74 : decode c_ErrataRow_rings 74 = .ok (.istore_n 2, 1) := by decide +kernel
theorem d_ErrataRow_rings_75 : decode c_ErrataRow_rings 75 = .ok (.iinc 3 1, 3) := by decide +kernel
theorem d_ErrataRow_rings_78 : decode c_ErrataRow_rings 78 = .ok (.goto (-44), 3) := by decide +kernel
theorem d_ErrataRow_rings_81 : decode c_ErrataRow_rings 81 = .ok (.iload_n 2, 1) := by decide +kernel
theorem d_ErrataRow_rings_82 : decode c_ErrataRow_rings 82 = .ok (.ireturn, 1) := by decide +kernel
abbrev c_ErrataRow_hungOver : ByteArray := prog_1_method_34_code
def y_ErrataRow_hungOver : MethodName := ⟨RX11, "hungOver", "(II)I"⟩
theorem d_ErrataRow_hungOver_0 : decode c_ErrataRow_hungOver 0 = .ok (.aload_n 0, 1) := by decide +kernel
theorem d_ErrataRow_hungOver_1 : decode c_ErrataRow_hungOver 1 = .ok (.getfield 45, 3) := by decide +kernel
theorem d_ErrataRow_hungOver_4 : decode c_ErrataRow_hungOver 4 = .ok (.getfield 145, 3) := by decide +kernel
theorem d_ErrataRow_hungOver_7 : decode c_ErrataRow_hungOver 7 = .ok (.getfield 157, 3) := by decide +kernel
theorem d_ErrataRow_hungOver_10 : decode c_ErrataRow_hungOver 10 = .ok (.astore_n 3, 1) := by decide +kernel
theorem d_ErrataRow_hungOver_11 : decode c_ErrataRow_hungOver 11 = .ok (.aload_n 3, 1) := by decide +kernel
theorem d_ErrataRow_hungOver_12 : decode c_ErrataRow_hungOver 12 = .ok (.iload_n 1, 1) := by decide +kernel
theorem d_ErrataRow_hungOver_13 : decode c_ErrataRow_hungOver 13 = .ok (.iaload, 1) := by decide +kernel
theorem d_ErrataRow_hungOver_14 : decode c_ErrataRow_hungOver 14 = .ok (.iload_n 2, 1) := by decide +kernel
theorem d_ErrataRow_hungOver_15 : decode c_ErrataRow_hungOver 15 = .ok (.iand, 1) := by decide +kernel
theorem d_ErrataRow_hungOver_16 : decode c_ErrataRow_hungOver 16 = .ok (.istore 4, 2) := by decide +kernel
theorem d_ErrataRow_hungOver_18 : decode c_ErrataRow_hungOver 18 = .ok (.iconst 0, 1) := by decide +kernel
theorem d_ErrataRow_hungOver_19 : decode c_ErrataRow_hungOver 19 = .ok (.istore 5, 2) := by decide +kernel
theorem d_ErrataRow_hungOver_21 : decode c_ErrataRow_hungOver 21 = .ok (.iload 5, 2) := by decide +kernel
theorem d_ErrataRow_hungOver_23 : decode c_ErrataRow_hungOver 23 = .ok (.bipush 10, 2) := by decide +kernel
theorem d_ErrataRow_hungOver_25 : decode c_ErrataRow_hungOver 25 = .ok (.if_icmp .ge 54, 3) := by decide +kernel
theorem d_ErrataRow_hungOver_28 : decode c_ErrataRow_hungOver 28 = .ok (.iconst 0, 1) := by decide +kernel
theorem d_ErrataRow_hungOver_29 : decode c_ErrataRow_hungOver 29 = .ok (.istore 6, 2) := by decide +kernel
theorem d_ErrataRow_hungOver_31 : decode c_ErrataRow_hungOver 31 = .ok (.iload 6, 2) := by decide +kernel
theorem d_ErrataRow_hungOver_33 : decode c_ErrataRow_hungOver 33 = .ok (.aload_n 0, 1) := by decide +kernel
theorem d_ErrataRow_hungOver_34 : decode c_ErrataRow_hungOver 34 = .ok (.getfield 45, 3) := by decide +kernel
theorem d_ErrataRow_hungOver_37 : decode c_ErrataRow_hungOver 37 = .ok (.getfield 62, 3) := by decide +kernel
theorem d_ErrataRow_hungOver_40 : decode c_ErrataRow_hungOver 40 = .ok (.getfield 123, 3) := by decide +kernel
theorem d_ErrataRow_hungOver_43 : decode c_ErrataRow_hungOver 43 = .ok (.if_icmp .ge 30, 3) := by decide +kernel
theorem d_ErrataRow_hungOver_46 : decode c_ErrataRow_hungOver 46 = .ok (.iload 4, 2) := by decide +kernel
theorem d_ErrataRow_hungOver_48 : decode c_ErrataRow_hungOver 48 = .ok (.iload 6, 2) := by decide +kernel
theorem d_ErrataRow_hungOver_50 : decode c_ErrataRow_hungOver 50 = .ok (.invokestatic 221, 3) := by decide +kernel
theorem d_ErrataRow_hungOver_53 : decode c_ErrataRow_hungOver 53 = .ok (.ifCond .eq 14, 3) := by decide +kernel
theorem d_ErrataRow_hungOver_56 : decode c_ErrataRow_hungOver 56 = .ok (.iload 4, 2) := by decide +kernel
theorem d_ErrataRow_hungOver_58 : decode c_ErrataRow_hungOver 58 = .ok (.aload_n 3, 1) := by decide +kernel
theorem d_ErrataRow_hungOver_59 : decode c_ErrataRow_hungOver 59 = .ok (.iload 6, 2) := by decide +kernel
theorem d_ErrataRow_hungOver_61 : decode c_ErrataRow_hungOver 61 = .ok (.iaload, 1) := by decide +kernel
theorem d_ErrataRow_hungOver_62 : decode c_ErrataRow_hungOver 62 = .ok (.iload_n 2, 1) := by decide +kernel
theorem d_ErrataRow_hungOver_63 : decode c_ErrataRow_hungOver 63 = .ok (.iand, 1) := by decide +kernel
theorem d_ErrataRow_hungOver_64 : decode c_ErrataRow_hungOver 64 = .ok (.ior, 1) := by decide +kernel
theorem d_ErrataRow_hungOver_65 : decode c_ErrataRow_hungOver 65 = .ok (.istore 4, 2) := by decide +kernel
theorem d_ErrataRow_hungOver_67 : decode c_ErrataRow_hungOver 67 = .ok (.iinc 6 1, 3) := by decide +kernel
theorem d_ErrataRow_hungOver_70 : decode c_ErrataRow_hungOver 70 = .ok (.goto (-39), 3) := by decide +kernel
theorem d_ErrataRow_hungOver_73 : decode c_ErrataRow_hungOver 73 = .ok (.iinc 5 1, 3) := by decide +kernel
theorem d_ErrataRow_hungOver_76 : decode c_ErrataRow_hungOver 76 = .ok (.goto (-55), 3) := by decide +kernel
theorem d_ErrataRow_hungOver_79 : decode c_ErrataRow_hungOver 79 = .ok (.iload 4, 2) := by decide +kernel
theorem d_ErrataRow_hungOver_81 : decode c_ErrataRow_hungOver 81 = .ok (.ireturn, 1) := by decide +kernel
abbrev c_ErrataRow_twice : ByteArray := prog_1_method_35_code
def y_ErrataRow_twice : MethodName := ⟨RX11, "twice", "(I)I"⟩
theorem d_ErrataRow_twice_0 : decode c_ErrataRow_twice 0 = .ok (.aload_n 0, 1) := by decide +kernel
theorem d_ErrataRow_twice_1 : decode c_ErrataRow_twice 1 = .ok (.getfield 45, 3) := by decide +kernel
theorem d_ErrataRow_twice_4 : decode c_ErrataRow_twice 4 = .ok (.getfield 62, 3) := by decide +kernel
theorem d_ErrataRow_twice_7 : decode c_ErrataRow_twice 7 = .ok (.getfield 160, 3) := by decide +kernel
theorem d_ErrataRow_twice_10 : decode c_ErrataRow_twice 10 = .ok (.ifCond .eq 12, 3) := by decide +kernel
theorem d_ErrataRow_twice_13 : decode c_ErrataRow_twice 13 = .ok (.iload_n 1, 1) := by decide +kernel
theorem d_ErrataRow_twice_14 : decode c_ErrataRow_twice 14 = .ok (.iconst 0, 1) := by decide +kernel
theorem d_ErrataRow_twice_15 : decode c_ErrataRow_twice 15 = .ok (.iconst 2, 1) := by decide +kernel
theorem d_ErrataRow_twice_16 : decode c_ErrataRow_twice 16 = .ok (.invokestatic 166, 3) := by decide +kernel
theorem d_ErrataRow_twice_19 : decode c_ErrataRow_twice 19 = .ok (.ifCond .ne 5, 3) := by decide +kernel
theorem d_ErrataRow_twice_22 : decode c_ErrataRow_twice 22 = .ok (.iconst (-1), 1) := by decide +kernel
theorem d_ErrataRow_twice_23 : decode c_ErrataRow_twice 23 = .ok (.ireturn, 1) := by decide +kernel
theorem d_ErrataRow_twice_24 : decode c_ErrataRow_twice 24 = .ok (.aload_n 0, 1) := by decide +kernel
theorem d_ErrataRow_twice_25 : decode c_ErrataRow_twice 25 = .ok (.invokevirtual 287, 3) := by decide +kernel
theorem d_ErrataRow_twice_28 : decode c_ErrataRow_twice 28 = .ok (.aload_n 0, 1) := by decide +kernel
theorem d_ErrataRow_twice_29 : decode c_ErrataRow_twice 29 = .ok (.getfield 89, 3) := by decide +kernel
theorem d_ErrataRow_twice_32 : decode c_ErrataRow_twice 32 = .ok (.iload_n 1, 1) := by decide +kernel
theorem d_ErrataRow_twice_33 : decode c_ErrataRow_twice 33 = .ok (.iaload, 1) := by decide +kernel
theorem d_ErrataRow_twice_34 : decode c_ErrataRow_twice 34 = .ok (.ireturn, 1) := by decide +kernel
abbrev c_ErrataRow_findTwice : ByteArray := prog_1_method_36_code
def y_ErrataRow_findTwice : MethodName := ⟨RX11, "findTwice", "()V"⟩
theorem d_ErrataRow_findTwice_0 : decode c_ErrataRow_findTwice 0 = .ok (.aload_n 0, 1) := by decide +kernel
theorem d_ErrataRow_findTwice_1 : decode c_ErrataRow_findTwice 1 = .ok (.getfield 45, 3) := by decide +kernel
theorem d_ErrataRow_findTwice_4 : decode c_ErrataRow_findTwice 4 = .ok (.getfield 62, 3) := by decide +kernel
theorem d_ErrataRow_findTwice_7 : decode c_ErrataRow_findTwice 7 = .ok (.getfield 123, 3) := by decide +kernel
theorem d_ErrataRow_findTwice_10 : decode c_ErrataRow_findTwice 10 = .ok (.istore_n 1, 1) := by decide +kernel
theorem d_ErrataRow_findTwice_11 : decode c_ErrataRow_findTwice 11 = .ok (.iload_n 1, 1) := by decide +kernel
theorem d_ErrataRow_findTwice_12 : decode c_ErrataRow_findTwice 12 = .ok (.iconst 1, 1) := by decide +kernel
theorem d_ErrataRow_findTwice_13 : decode c_ErrataRow_findTwice 13 = .ok (.isub, 1) := by decide +kernel
theorem d_ErrataRow_findTwice_14 : decode c_ErrataRow_findTwice 14 = .ok (.istore_n 2, 1) := by decide +kernel
theorem d_ErrataRow_findTwice_15 : decode c_ErrataRow_findTwice 15 = .ok (.iload_n 2, 1) := by decide +kernel
theorem d_ErrataRow_findTwice_16 : decode c_ErrataRow_findTwice 16 = .ok (.iconst 1, 1) := by decide +kernel
theorem d_ErrataRow_findTwice_17 : decode c_ErrataRow_findTwice 17 = .ok (.if_icmp .lt 63, 3) := by decide +kernel
theorem d_ErrataRow_findTwice_20 : decode c_ErrataRow_findTwice 20 = .ok (.iconst 0, 1) := by decide +kernel
theorem d_ErrataRow_findTwice_21 : decode c_ErrataRow_findTwice 21 = .ok (.istore_n 3, 1) := by decide +kernel
theorem d_ErrataRow_findTwice_22 : decode c_ErrataRow_findTwice 22 = .ok (.iload_n 3, 1) := by decide +kernel
theorem d_ErrataRow_findTwice_23 : decode c_ErrataRow_findTwice 23 = .ok (.iload_n 2, 1) := by decide +kernel
theorem d_ErrataRow_findTwice_24 : decode c_ErrataRow_findTwice 24 = .ok (.iadd, 1) := by decide +kernel
theorem d_ErrataRow_findTwice_25 : decode c_ErrataRow_findTwice 25 = .ok (.iload_n 1, 1) := by decide +kernel
theorem d_ErrataRow_findTwice_26 : decode c_ErrataRow_findTwice 26 = .ok (.if_icmp .ge 48, 3) := by decide +kernel
theorem d_ErrataRow_findTwice_29 : decode c_ErrataRow_findTwice 29 = .ok (.iload_n 3, 1) := by decide +kernel
theorem d_ErrataRow_findTwice_30 : decode c_ErrataRow_findTwice 30 = .ok (.iconst 1, 1) := by decide +kernel
theorem d_ErrataRow_findTwice_31 : decode c_ErrataRow_findTwice 31 = .ok (.iadd, 1) := by decide +kernel
theorem d_ErrataRow_findTwice_32 : decode c_ErrataRow_findTwice 32 = .ok (.istore 4, 2) := by decide +kernel
theorem d_ErrataRow_findTwice_34 : decode c_ErrataRow_findTwice 34 = .ok (.iload 4, 2) := by decide +kernel
theorem d_ErrataRow_findTwice_36 : decode c_ErrataRow_findTwice 36 = .ok (.iload_n 2, 1) := by decide +kernel
theorem d_ErrataRow_findTwice_37 : decode c_ErrataRow_findTwice 37 = .ok (.iadd, 1) := by decide +kernel
theorem d_ErrataRow_findTwice_38 : decode c_ErrataRow_findTwice 38 = .ok (.iload_n 1, 1) := by decide +kernel
theorem d_ErrataRow_findTwice_39 : decode c_ErrataRow_findTwice 39 = .ok (.if_icmp .gt 29, 3) := by decide +kernel
theorem d_ErrataRow_findTwice_42 : decode c_ErrataRow_findTwice 42 = .ok (.aload_n 0, 1) := by decide +kernel
theorem d_ErrataRow_findTwice_43 : decode c_ErrataRow_findTwice 43 = .ok (.iload_n 3, 1) := by decide +kernel
theorem d_ErrataRow_findTwice_44 : decode c_ErrataRow_findTwice 44 = .ok (.iload 4, 2) := by decide +kernel
theorem d_ErrataRow_findTwice_46 : decode c_ErrataRow_findTwice 46 = .ok (.iload_n 2, 1) := by decide +kernel
theorem d_ErrataRow_findTwice_47 : decode c_ErrataRow_findTwice 47 = .ok (.invokevirtual 290, 3) := by decide +kernel
theorem d_ErrataRow_findTwice_50 : decode c_ErrataRow_findTwice 50 = .ok (.ifCond .eq 12, 3) := by decide +kernel
theorem d_ErrataRow_findTwice_53 : decode c_ErrataRow_findTwice 53 = .ok (.aload_n 0, 1) := by decide +kernel
theorem d_ErrataRow_findTwice_54 : decode c_ErrataRow_findTwice 54 = .ok (.iload_n 2, 1) := by decide +kernel
theorem d_ErrataRow_findTwice_55 : decode c_ErrataRow_findTwice 55 = .ok (.iload_n 3, 1) := by decide +kernel
theorem d_ErrataRow_findTwice_56 : decode c_ErrataRow_findTwice 56 = .ok (.iload 4, 2) := by decide +kernel
theorem d_ErrataRow_findTwice_58 : decode c_ErrataRow_findTwice 58 = .ok (.invokevirtual 293, 3) := by decide +kernel
theorem d_ErrataRow_findTwice_61 : decode c_ErrataRow_findTwice 61 = .ok (.return_, 1) := by decide +kernel
theorem d_ErrataRow_findTwice_62 : decode c_ErrataRow_findTwice 62 = .ok (.iinc 4 1, 3) := by decide +kernel
theorem d_ErrataRow_findTwice_65 : decode c_ErrataRow_findTwice 65 = .ok (.goto (-31), 3) := by decide +kernel
theorem d_ErrataRow_findTwice_68 : decode c_ErrataRow_findTwice 68 = .ok (.iinc 3 1, 3) := by decide +kernel
theorem d_ErrataRow_findTwice_71 : decode c_ErrataRow_findTwice 71 = .ok (.goto (-49), 3) := by decide +kernel
theorem d_ErrataRow_findTwice_74 : decode c_ErrataRow_findTwice 74 = .ok (.iinc 2 (-1), 3) := by decide +kernel
theorem d_ErrataRow_findTwice_77 : decode c_ErrataRow_findTwice 77 = .ok (.goto (-62), 3) := by decide +kernel
theorem d_ErrataRow_findTwice_80 : decode c_ErrataRow_findTwice 80 = .ok (.aload_n 0, 1) := by decide +kernel
theorem d_ErrataRow_findTwice_81 : decode c_ErrataRow_findTwice 81 = .ok (.iconst 0, 1) := by decide +kernel
theorem d_ErrataRow_findTwice_82 : decode c_ErrataRow_findTwice 82 = .ok (.bipush (-2), 2) := by decide +kernel
theorem d_ErrataRow_findTwice_84 : decode c_ErrataRow_findTwice 84 = .ok (.bipush (-2), 2) := by decide +kernel
theorem d_ErrataRow_findTwice_86 : decode c_ErrataRow_findTwice 86 = .ok (.invokevirtual 293, 3) := by decide +kernel
theorem d_ErrataRow_findTwice_89 : decode c_ErrataRow_findTwice 89 = .ok (.return_, 1) := by decide +kernel
abbrev c_ErrataRow_isSamePart : ByteArray := prog_1_method_37_code
def y_ErrataRow_isSamePart : MethodName := ⟨RX11, "isSamePart", "(III)Z"⟩
theorem d_ErrataRow_isSamePart_0 : decode c_ErrataRow_isSamePart 0 = .ok (.iconst 0, 1) := by decide +kernel
theorem d_ErrataRow_isSamePart_1 : decode c_ErrataRow_isSamePart 1 = .ok (.istore 4, 2) := by decide +kernel
theorem d_ErrataRow_isSamePart_3 : decode c_ErrataRow_isSamePart 3 = .ok (.iload 4, 2) := by decide +kernel
theorem d_ErrataRow_isSamePart_5 : decode c_ErrataRow_isSamePart 5 = .ok (.iload_n 3, 1) := by decide +kernel
theorem d_ErrataRow_isSamePart_6 : decode c_ErrataRow_isSamePart 6 = .ok (.if_icmp .ge 44, 3) := by decide +kernel
theorem d_ErrataRow_isSamePart_9 : decode c_ErrataRow_isSamePart 9 = .ok (.aload_n 0, 1) := by decide +kernel
theorem d_ErrataRow_isSamePart_10 : decode c_ErrataRow_isSamePart 10 = .ok (.getfield 45, 3) := by decide +kernel
theorem d_ErrataRow_isSamePart_13 : decode c_ErrataRow_isSamePart 13 = .ok (.getfield 145, 3) := by decide +kernel
theorem d_ErrataRow_isSamePart_16 : decode c_ErrataRow_isSamePart 16 = .ok (.getfield 148, 3) := by decide +kernel
theorem d_ErrataRow_isSamePart_19 : decode c_ErrataRow_isSamePart 19 = .ok (.iload_n 1, 1) := by decide +kernel
theorem d_ErrataRow_isSamePart_20 : decode c_ErrataRow_isSamePart 20 = .ok (.iload 4, 2) := by decide +kernel
theorem d_ErrataRow_isSamePart_22 : decode c_ErrataRow_isSamePart 22 = .ok (.iadd, 1) := by decide +kernel
theorem d_ErrataRow_isSamePart_23 : decode c_ErrataRow_isSamePart 23 = .ok (.iaload, 1) := by decide +kernel
theorem d_ErrataRow_isSamePart_24 : decode c_ErrataRow_isSamePart 24 = .ok (.aload_n 0, 1) := by decide +kernel
theorem d_ErrataRow_isSamePart_25 : decode c_ErrataRow_isSamePart 25 = .ok (.getfield 45, 3) := by decide +kernel
theorem d_ErrataRow_isSamePart_28 : decode c_ErrataRow_isSamePart 28 = .ok (.getfield 145, 3) := by decide +kernel
theorem d_ErrataRow_isSamePart_31 : decode c_ErrataRow_isSamePart 31 = .ok (.getfield 148, 3) := by decide +kernel
theorem d_ErrataRow_isSamePart_34 : decode c_ErrataRow_isSamePart 34 = .ok (.iload_n 2, 1) := by decide +kernel
theorem d_ErrataRow_isSamePart_35 : decode c_ErrataRow_isSamePart 35 = .ok (.iload 4, 2) := by decide +kernel
theorem d_ErrataRow_isSamePart_37 : decode c_ErrataRow_isSamePart 37 = .ok (.iadd, 1) := by decide +kernel
theorem d_ErrataRow_isSamePart_38 : decode c_ErrataRow_isSamePart 38 = .ok (.iaload, 1) := by decide +kernel
theorem d_ErrataRow_isSamePart_39 : decode c_ErrataRow_isSamePart 39 = .ok (.if_icmp .eq 5, 3) := by decide +kernel
theorem d_ErrataRow_isSamePart_42 : decode c_ErrataRow_isSamePart 42 = .ok (.iconst 0, 1) := by decide +kernel
theorem d_ErrataRow_isSamePart_43 : decode c_ErrataRow_isSamePart 43 = .ok (.ireturn, 1) := by decide +kernel
theorem d_ErrataRow_isSamePart_44 : decode c_ErrataRow_isSamePart 44 = .ok (.iinc 4 1, 3) := by decide +kernel
theorem d_ErrataRow_isSamePart_47 : decode c_ErrataRow_isSamePart 47 = .ok (.goto (-44), 3) := by decide +kernel
theorem d_ErrataRow_isSamePart_50 : decode c_ErrataRow_isSamePart 50 = .ok (.iconst 1, 1) := by decide +kernel
theorem d_ErrataRow_isSamePart_51 : decode c_ErrataRow_isSamePart 51 = .ok (.ireturn, 1) := by decide +kernel
abbrev c_ErrataRow_keepFound : ByteArray := prog_1_method_38_code
def y_ErrataRow_keepFound : MethodName := ⟨RX11, "keepFound", "(III)V"⟩
theorem d_ErrataRow_keepFound_0 : decode c_ErrataRow_keepFound 0 = .ok (.aload_n 0, 1) := by decide +kernel
theorem d_ErrataRow_keepFound_1 : decode c_ErrataRow_keepFound 1 = .ok (.getfield 89, 3) := by decide +kernel
theorem d_ErrataRow_keepFound_4 : decode c_ErrataRow_keepFound 4 = .ok (.iconst 0, 1) := by decide +kernel
theorem d_ErrataRow_keepFound_5 : decode c_ErrataRow_keepFound 5 = .ok (.iload_n 1, 1) := by decide +kernel
theorem d_ErrataRow_keepFound_6 : decode c_ErrataRow_keepFound 6 = .ok (.iastore, 1) := by decide +kernel
theorem d_ErrataRow_keepFound_7 : decode c_ErrataRow_keepFound 7 = .ok (.aload_n 0, 1) := by decide +kernel
theorem d_ErrataRow_keepFound_8 : decode c_ErrataRow_keepFound 8 = .ok (.getfield 89, 3) := by decide +kernel
theorem d_ErrataRow_keepFound_11 : decode c_ErrataRow_keepFound 11 = .ok (.iconst 1, 1) := by decide +kernel
theorem d_ErrataRow_keepFound_12 : decode c_ErrataRow_keepFound 12 = .ok (.iload_n 2, 1) := by decide +kernel
theorem d_ErrataRow_keepFound_13 : decode c_ErrataRow_keepFound 13 = .ok (.iastore, 1) := by decide +kernel
theorem d_ErrataRow_keepFound_14 : decode c_ErrataRow_keepFound 14 = .ok (.aload_n 0, 1) := by decide +kernel
theorem d_ErrataRow_keepFound_15 : decode c_ErrataRow_keepFound 15 = .ok (.getfield 89, 3) := by decide +kernel
theorem d_ErrataRow_keepFound_18 : decode c_ErrataRow_keepFound 18 = .ok (.iconst 2, 1) := by decide +kernel
theorem d_ErrataRow_keepFound_19 : decode c_ErrataRow_keepFound 19 = .ok (.iload_n 3, 1) := by decide +kernel
theorem d_ErrataRow_keepFound_20 : decode c_ErrataRow_keepFound 20 = .ok (.iastore, 1) := by decide +kernel
theorem d_ErrataRow_keepFound_21 : decode c_ErrataRow_keepFound 21 = .ok (.return_, 1) := by decide +kernel
abbrev c_ErrataRow_apart : ByteArray := prog_1_method_39_code
def y_ErrataRow_apart : MethodName := ⟨RX11, "apart", "(III)I"⟩
theorem d_ErrataRow_apart_0 : decode c_ErrataRow_apart 0 = .ok (.aload_n 0, 1) := by decide +kernel
theorem d_ErrataRow_apart_1 : decode c_ErrataRow_apart 1 = .ok (.iload_n 1, 1) := by decide +kernel
theorem d_ErrataRow_apart_2 : decode c_ErrataRow_apart 2 = .ok (.invokevirtual 141, 3) := by decide +kernel
theorem d_ErrataRow_apart_5 : decode c_ErrataRow_apart 5 = .ok (.ifCond .eq 21, 3) := by decide +kernel
theorem d_ErrataRow_apart_8 : decode c_ErrataRow_apart 8 = .ok (.aload_n 0, 1) := by decide +kernel
theorem d_ErrataRow_apart_9 : decode c_ErrataRow_apart 9 = .ok (.iload_n 2, 1) := by decide +kernel
theorem d_ErrataRow_apart_10 : decode c_ErrataRow_apart 10 = .ok (.invokevirtual 141, 3) := by decide +kernel
theorem d_ErrataRow_apart_13 : decode c_ErrataRow_apart 13 = .ok (.ifCond .eq 13, 3) := by decide +kernel
theorem d_ErrataRow_apart_16 : decode c_ErrataRow_apart 16 = .ok (.iload_n 3, 1) := by decide +kernel
theorem d_ErrataRow_apart_17 : decode c_ErrataRow_apart 17 = .ok (.iconst 1, 1) := by decide +kernel
theorem d_ErrataRow_apart_18 : decode c_ErrataRow_apart 18 = .ok (.bipush 10, 2) := by decide +kernel
theorem d_ErrataRow_apart_20 : decode c_ErrataRow_apart 20 = .ok (.invokestatic 166, 3) := by decide +kernel
theorem d_ErrataRow_apart_23 : decode c_ErrataRow_apart 23 = .ok (.ifCond .ne 5, 3) := by decide +kernel
theorem d_ErrataRow_apart_26 : decode c_ErrataRow_apart 26 = .ok (.iconst (-1), 1) := by decide +kernel
theorem d_ErrataRow_apart_27 : decode c_ErrataRow_apart 27 = .ok (.ireturn, 1) := by decide +kernel
theorem d_ErrataRow_apart_28 : decode c_ErrataRow_apart 28 = .ok (.aload_n 0, 1) := by decide +kernel
theorem d_ErrataRow_apart_29 : decode c_ErrataRow_apart 29 = .ok (.getfield 45, 3) := by decide +kernel
theorem d_ErrataRow_apart_32 : decode c_ErrataRow_apart 32 = .ok (.getfield 62, 3) := by decide +kernel
theorem d_ErrataRow_apart_35 : decode c_ErrataRow_apart 35 = .ok (.getfield 123, 3) := by decide +kernel
theorem d_ErrataRow_apart_38 : decode c_ErrataRow_apart 38 = .ok (.istore 4, 2) := by decide +kernel
theorem d_ErrataRow_apart_40 : decode c_ErrataRow_apart 40 = .ok (.iload_n 1, 1) := by decide +kernel
theorem d_ErrataRow_apart_41 : decode c_ErrataRow_apart 41 = .ok (.iload_n 3, 1) := by decide +kernel
theorem d_ErrataRow_apart_42 : decode c_ErrataRow_apart 42 = .ok (.iadd, 1) := by decide +kernel
theorem d_ErrataRow_apart_43 : decode c_ErrataRow_apart 43 = .ok (.iload 4, 2) := by decide +kernel
theorem d_ErrataRow_apart_45 : decode c_ErrataRow_apart 45 = .ok (.if_icmp .gt 11, 3) := by decide +kernel
theorem d_ErrataRow_apart_48 : decode c_ErrataRow_apart 48 = .ok (.iload_n 2, 1) := by decide +kernel
theorem d_ErrataRow_apart_49 : decode c_ErrataRow_apart 49 = .ok (.iload_n 3, 1) := by decide +kernel
theorem d_ErrataRow_apart_50 : decode c_ErrataRow_apart 50 = .ok (.iadd, 1) := by decide +kernel
theorem d_ErrataRow_apart_51 : decode c_ErrataRow_apart 51 = .ok (.iload 4, 2) := by decide +kernel
theorem d_ErrataRow_apart_53 : decode c_ErrataRow_apart 53 = .ok (.if_icmp .le 5, 3) := by decide +kernel
theorem d_ErrataRow_apart_56 : decode c_ErrataRow_apart 56 = .ok (.iconst (-1), 1) := by decide +kernel
theorem d_ErrataRow_apart_57 : decode c_ErrataRow_apart 57 = .ok (.ireturn, 1) := by decide +kernel
theorem d_ErrataRow_apart_58 : decode c_ErrataRow_apart 58 = .ok (.aload_n 0, 1) := by decide +kernel
theorem d_ErrataRow_apart_59 : decode c_ErrataRow_apart 59 = .ok (.getfield 45, 3) := by decide +kernel
theorem d_ErrataRow_apart_62 : decode c_ErrataRow_apart 62 = .ok (.getfield 145, 3) := by decide +kernel
theorem d_ErrataRow_apart_65 : decode c_ErrataRow_apart 65 = .ok (.getfield 148, 3) := by decide +kernel
theorem d_ErrataRow_apart_68 : decode c_ErrataRow_apart 68 = .ok (.astore 5, 2) := by decide +kernel
theorem d_ErrataRow_apart_70 : decode c_ErrataRow_apart 70 = .ok (.iconst 0, 1) := by decide +kernel
theorem d_ErrataRow_apart_71 : decode c_ErrataRow_apart 71 = .ok (.istore 6, 2) := by decide +kernel
theorem d_ErrataRow_apart_73 : decode c_ErrataRow_apart 73 = .ok (.iload 6, 2) := by decide +kernel
theorem d_ErrataRow_apart_75 : decode c_ErrataRow_apart 75 = .ok (.iload_n 3, 1) := by decide +kernel
theorem d_ErrataRow_apart_76 : decode c_ErrataRow_apart 76 = .ok (.if_icmp .gt 18, 3) := by decide +kernel
theorem d_ErrataRow_apart_79 : decode c_ErrataRow_apart 79 = .ok (.aload_n 0, 1) := by decide +kernel
theorem d_ErrataRow_apart_80 : decode c_ErrataRow_apart 80 = .ok (.getfield 92, 3) := by decide +kernel
theorem d_ErrataRow_apart_83 : decode c_ErrataRow_apart 83 = .ok (.iload 6, 2) := by decide +kernel
theorem d_ErrataRow_apart_85 : decode c_ErrataRow_apart 85 = .ok (.iload 6, 2) := by decide +kernel
theorem d_ErrataRow_apart_87 : decode c_ErrataRow_apart 87 = .ok (.iastore, 1) := by decide +kernel
theorem d_ErrataRow_apart_88 : decode c_ErrataRow_apart 88 = .ok (.iinc 6 1, 3) := by decide +kernel
theorem d_ErrataRow_apart_91 : decode c_ErrataRow_apart 91 = .ok (.goto (-18), 3) := by decide +kernel
theorem d_ErrataRow_apart_94 : decode c_ErrataRow_apart 94 = .ok (.iconst 1, 1) := by decide +kernel
theorem d_ErrataRow_apart_95 : decode c_ErrataRow_apart 95 = .ok (.istore 6, 2) := by decide +kernel
theorem d_ErrataRow_apart_97 : decode c_ErrataRow_apart 97 = .ok (.iload 6, 2) := by decide +kernel
theorem d_ErrataRow_apart_99 : decode c_ErrataRow_apart 99 = .ok (.iload_n 3, 1) := by decide +kernel
theorem d_ErrataRow_apart_100 : decode c_ErrataRow_apart 100 = .ok (.if_icmp .gt 113, 3) := by decide +kernel
theorem d_ErrataRow_apart_103 : decode c_ErrataRow_apart 103 = .ok (.aload_n 0, 1) := by decide +kernel
theorem d_ErrataRow_apart_104 : decode c_ErrataRow_apart 104 = .ok (.getfield 92, 3) := by decide +kernel
theorem d_ErrataRow_apart_107 : decode c_ErrataRow_apart 107 = .ok (.iconst 0, 1) := by decide +kernel
theorem d_ErrataRow_apart_108 : decode c_ErrataRow_apart 108 = .ok (.iaload, 1) := by decide +kernel
theorem d_ErrataRow_apart_109 : decode c_ErrataRow_apart 109 = .ok (.istore 7, 2) := by decide +kernel
theorem d_ErrataRow_apart_111 : decode c_ErrataRow_apart 111 = .ok (.aload_n 0, 1) := by decide +kernel
theorem d_ErrataRow_apart_112 : decode c_ErrataRow_apart 112 = .ok (.getfield 92, 3) := by decide +kernel
theorem d_ErrataRow_apart_115 : decode c_ErrataRow_apart 115 = .ok (.iconst 0, 1) := by decide +kernel
theorem d_ErrataRow_apart_116 : decode c_ErrataRow_apart 116 = .ok (.iload 6, 2) := by decide +kernel
theorem d_ErrataRow_apart_118 : decode c_ErrataRow_apart 118 = .ok (.iastore, 1) := by decide +kernel
theorem d_ErrataRow_apart_119 : decode c_ErrataRow_apart 119 = .ok (.iconst 1, 1) := by decide +kernel
theorem d_ErrataRow_apart_120 : decode c_ErrataRow_apart 120 = .ok (.istore 8, 2) := by decide +kernel
theorem d_ErrataRow_apart_122 : decode c_ErrataRow_apart 122 = .ok (.iload 8, 2) := by decide +kernel
theorem d_ErrataRow_apart_124 : decode c_ErrataRow_apart 124 = .ok (.iload_n 3, 1) := by decide +kernel
theorem d_ErrataRow_apart_125 : decode c_ErrataRow_apart 125 = .ok (.if_icmp .gt 82, 3) := by decide +kernel
theorem d_ErrataRow_apart_128 : decode c_ErrataRow_apart 128 = .ok (.iload 7, 2) := by decide +kernel
theorem d_ErrataRow_apart_130 : decode c_ErrataRow_apart 130 = .ok (.aload 5, 2) := by decide +kernel
theorem d_ErrataRow_apart_132 : decode c_ErrataRow_apart 132 = .ok (.iload_n 1, 1) := by decide +kernel
theorem d_ErrataRow_apart_133 : decode c_ErrataRow_apart 133 = .ok (.iload 6, 2) := by decide +kernel
theorem d_ErrataRow_apart_135 : decode c_ErrataRow_apart 135 = .ok (.iadd, 1) := by decide +kernel
theorem d_ErrataRow_apart_136 : decode c_ErrataRow_apart 136 = .ok (.iconst 1, 1) := by decide +kernel
theorem d_ErrataRow_apart_137 : decode c_ErrataRow_apart 137 = .ok (.isub, 1) := by decide +kernel
theorem d_ErrataRow_apart_138 : decode c_ErrataRow_apart 138 = .ok (.iaload, 1) := by decide +kernel
theorem d_ErrataRow_apart_139 : decode c_ErrataRow_apart 139 = .ok (.aload 5, 2) := by decide +kernel
theorem d_ErrataRow_apart_141 : decode c_ErrataRow_apart 141 = .ok (.iload_n 2, 1) := by decide +kernel
theorem d_ErrataRow_apart_142 : decode c_ErrataRow_apart 142 = .ok (.iload 8, 2) := by decide +kernel
theorem d_ErrataRow_apart_144 : decode c_ErrataRow_apart 144 = .ok (.iadd, 1) := by decide +kernel
theorem d_ErrataRow_apart_145 : decode c_ErrataRow_apart 145 = .ok (.iconst 1, 1) := by decide +kernel
theorem d_ErrataRow_apart_146 : decode c_ErrataRow_apart 146 = .ok (.isub, 1) := by decide +kernel
theorem d_ErrataRow_apart_147 : decode c_ErrataRow_apart 147 = .ok (.iaload, 1) := by decide +kernel
theorem d_ErrataRow_apart_148 : decode c_ErrataRow_apart 148 = .ok (.if_icmp .ne 7, 3) := by decide +kernel
theorem d_ErrataRow_apart_151 : decode c_ErrataRow_apart 151 = .ok (.iconst 0, 1) := by decide +kernel
theorem d_ErrataRow_apart_152 : decode c_ErrataRow_apart 152 = .ok (.goto 4, 3) := by decide +kernel
theorem d_ErrataRow_apart_155 : decode c_ErrataRow_apart 155 = .ok (.iconst 1, 1) := by decide +kernel
theorem d_ErrataRow_apart_156 : decode c_ErrataRow_apart 156 = .ok (.iadd, 1) := by decide +kernel
theorem d_ErrataRow_apart_157 : decode c_ErrataRow_apart 157 = .ok (.istore 9, 2) := by decide +kernel
theorem d_ErrataRow_apart_159 : decode c_ErrataRow_apart 159 = .ok (.aload_n 0, 1) := by decide +kernel
theorem d_ErrataRow_apart_160 : decode c_ErrataRow_apart 160 = .ok (.getfield 92, 3) := by decide +kernel
theorem d_ErrataRow_apart_163 : decode c_ErrataRow_apart 163 = .ok (.iload 8, 2) := by decide +kernel
theorem d_ErrataRow_apart_165 : decode c_ErrataRow_apart 165 = .ok (.iaload, 1) := by decide +kernel
theorem d_ErrataRow_apart_166 : decode c_ErrataRow_apart 166 = .ok (.istore 7, 2) := by decide +kernel
theorem d_ErrataRow_apart_168 : decode c_ErrataRow_apart 168 = .ok (.aload_n 0, 1) := by decide +kernel
theorem d_ErrataRow_apart_169 : decode c_ErrataRow_apart 169 = .ok (.getfield 92, 3) := by decide +kernel
theorem d_ErrataRow_apart_172 : decode c_ErrataRow_apart 172 = .ok (.iload 8, 2) := by decide +kernel
theorem d_ErrataRow_apart_174 : decode c_ErrataRow_apart 174 = .ok (.iload 9, 2) := by decide +kernel
theorem d_ErrataRow_apart_176 : decode c_ErrataRow_apart 176 = .ok (.aload_n 0, 1) := by decide +kernel
theorem d_ErrataRow_apart_177 : decode c_ErrataRow_apart 177 = .ok (.getfield 92, 3) := by decide +kernel
theorem d_ErrataRow_apart_180 : decode c_ErrataRow_apart 180 = .ok (.iload 8, 2) := by decide +kernel
theorem d_ErrataRow_apart_182 : decode c_ErrataRow_apart 182 = .ok (.iaload, 1) := by decide +kernel
theorem d_ErrataRow_apart_183 : decode c_ErrataRow_apart 183 = .ok (.aload_n 0, 1) := by decide +kernel
theorem d_ErrataRow_apart_184 : decode c_ErrataRow_apart 184 = .ok (.getfield 92, 3) := by decide +kernel
theorem d_ErrataRow_apart_187 : decode c_ErrataRow_apart 187 = .ok (.iload 8, 2) := by decide +kernel
theorem d_ErrataRow_apart_189 : decode c_ErrataRow_apart 189 = .ok (.iconst 1, 1) := by decide +kernel
theorem d_ErrataRow_apart_190 : decode c_ErrataRow_apart 190 = .ok (.isub, 1) := by decide +kernel
theorem d_ErrataRow_apart_191 : decode c_ErrataRow_apart 191 = .ok (.iaload, 1) := by decide +kernel
theorem d_ErrataRow_apart_192 : decode c_ErrataRow_apart 192 = .ok (.invokestatic 228, 3) := by decide +kernel
theorem d_ErrataRow_apart_195 : decode c_ErrataRow_apart 195 = .ok (.iconst 1, 1) := by decide +kernel
theorem d_ErrataRow_apart_196 : decode c_ErrataRow_apart 196 = .ok (.iadd, 1) := by decide +kernel
theorem d_ErrataRow_apart_197 : decode c_ErrataRow_apart 197 = .ok (.invokestatic 228, 3) := by decide +kernel
theorem d_ErrataRow_apart_200 : decode c_ErrataRow_apart 200 = .ok (.iastore, 1) := by decide +kernel
theorem d_ErrataRow_apart_201 : decode c_ErrataRow_apart 201 = .ok (.iinc 8 1, 3) := by decide +kernel
theorem d_ErrataRow_apart_204 : decode c_ErrataRow_apart 204 = .ok (.goto (-82), 3) := by decide +kernel
theorem d_ErrataRow_apart_207 : decode c_ErrataRow_apart 207 = .ok (.iinc 6 1, 3) := by decide +kernel
theorem d_ErrataRow_apart_210 : decode c_ErrataRow_apart 210 = .ok (.goto (-113), 3) := by decide +kernel
theorem d_ErrataRow_apart_213 : decode c_ErrataRow_apart 213 = .ok (.aload_n 0, 1) := by decide +kernel
theorem d_ErrataRow_apart_214 : decode c_ErrataRow_apart 214 = .ok (.getfield 92, 3) := by decide +kernel
theorem d_ErrataRow_apart_217 : decode c_ErrataRow_apart 217 = .ok (.iload_n 3, 1) := by decide +kernel
theorem d_ErrataRow_apart_218 : decode c_ErrataRow_apart 218 = .ok (.iaload, 1) := by decide +kernel
theorem d_ErrataRow_apart_219 : decode c_ErrataRow_apart 219 = .ok (.ireturn, 1) := by decide +kernel
abbrev c_ErrataRow_pence : ByteArray := prog_1_method_40_code
def y_ErrataRow_pence : MethodName := ⟨RX11, "pence", "(II)I"⟩
theorem d_ErrataRow_pence_0 : decode c_ErrataRow_pence 0 = .ok (.iload_n 1, 1) := by decide +kernel
theorem d_ErrataRow_pence_1 : decode c_ErrataRow_pence 1 = .ok (.iconst 0, 1) := by decide +kernel
theorem d_ErrataRow_pence_2 : decode c_ErrataRow_pence 2 = .ok (.sipush 9999, 3) := by decide +kernel
theorem d_ErrataRow_pence_5 : decode c_ErrataRow_pence 5 = .ok (.invokestatic 166, 3) := by decide +kernel
theorem d_ErrataRow_pence_8 : decode c_ErrataRow_pence 8 = .ok (.ifCond .eq 11, 3) := by decide +kernel
theorem d_ErrataRow_pence_11 : decode c_ErrataRow_pence 11 = .ok (.aload_n 0, 1) := by decide +kernel
theorem d_ErrataRow_pence_12 : decode c_ErrataRow_pence 12 = .ok (.iload_n 2, 1) := by decide +kernel
theorem d_ErrataRow_pence_13 : decode c_ErrataRow_pence 13 = .ok (.invokevirtual 141, 3) := by decide +kernel
theorem d_ErrataRow_pence_16 : decode c_ErrataRow_pence 16 = .ok (.ifCond .ne 5, 3) := by decide +kernel
theorem d_ErrataRow_pence_19 : decode c_ErrataRow_pence 19 = .ok (.iconst (-1), 1) := by decide +kernel
theorem d_ErrataRow_pence_20 : decode c_ErrataRow_pence 20 = .ok (.ireturn, 1) := by decide +kernel
theorem d_ErrataRow_pence_21 : decode c_ErrataRow_pence 21 = .ok (.aload_n 0, 1) := by decide +kernel
theorem d_ErrataRow_pence_22 : decode c_ErrataRow_pence 22 = .ok (.getfield 45, 3) := by decide +kernel
theorem d_ErrataRow_pence_25 : decode c_ErrataRow_pence 25 = .ok (.getfield 145, 3) := by decide +kernel
theorem d_ErrataRow_pence_28 : decode c_ErrataRow_pence 28 = .ok (.getfield 154, 3) := by decide +kernel
theorem d_ErrataRow_pence_31 : decode c_ErrataRow_pence 31 = .ok (.astore_n 3, 1) := by decide +kernel
theorem d_ErrataRow_pence_32 : decode c_ErrataRow_pence 32 = .ok (.aload_n 0, 1) := by decide +kernel
theorem d_ErrataRow_pence_33 : decode c_ErrataRow_pence 33 = .ok (.getfield 45, 3) := by decide +kernel
theorem d_ErrataRow_pence_36 : decode c_ErrataRow_pence 36 = .ok (.getfield 62, 3) := by decide +kernel
theorem d_ErrataRow_pence_39 : decode c_ErrataRow_pence 39 = .ok (.getfield 123, 3) := by decide +kernel
theorem d_ErrataRow_pence_42 : decode c_ErrataRow_pence 42 = .ok (.istore 4, 2) := by decide +kernel
theorem d_ErrataRow_pence_44 : decode c_ErrataRow_pence 44 = .ok (.iconst 0, 1) := by decide +kernel
theorem d_ErrataRow_pence_45 : decode c_ErrataRow_pence 45 = .ok (.istore 5, 2) := by decide +kernel
theorem d_ErrataRow_pence_47 : decode c_ErrataRow_pence 47 = .ok (.iconst 0, 1) := by decide +kernel
theorem d_ErrataRow_pence_48 : decode c_ErrataRow_pence 48 = .ok (.istore 6, 2) := by decide +kernel
theorem d_ErrataRow_pence_50 : decode c_ErrataRow_pence 50 = .ok (.iload 6, 2) := by decide +kernel
theorem d_ErrataRow_pence_52 : decode c_ErrataRow_pence 52 = .ok (.iload 4, 2) := by decide +kernel
theorem d_ErrataRow_pence_54 : decode c_ErrataRow_pence 54 = .ok (.if_icmp .ge 18, 3) := by decide +kernel
theorem d_ErrataRow_pence_57 : decode c_ErrataRow_pence 57 = .ok (.iload 5, 2) := by decide +kernel
theorem d_ErrataRow_pence_59 : decode c_ErrataRow_pence 59 = .ok (.aload_n 3, 1) := by decide +kernel
theorem d_ErrataRow_pence_60 : decode c_ErrataRow_pence 60 = .ok (.iload 6, 2) := by decide +kernel
theorem d_ErrataRow_pence_62 : decode c_ErrataRow_pence 62 = .ok (.iaload, 1) := by decide +kernel
theorem d_ErrataRow_pence_63 : decode c_ErrataRow_pence 63 = .ok (.iadd, 1) := by decide +kernel
theorem d_ErrataRow_pence_64 : decode c_ErrataRow_pence 64 = .ok (.istore 5, 2) := by decide +kernel
theorem d_ErrataRow_pence_66 : decode c_ErrataRow_pence 66 = .ok (.iinc 6 1, 3) := by decide +kernel
theorem d_ErrataRow_pence_69 : decode c_ErrataRow_pence 69 = .ok (.goto (-19), 3) := by decide +kernel
theorem d_ErrataRow_pence_72 : decode c_ErrataRow_pence 72 = .ok (.iload 5, 2) := by decide +kernel
theorem d_ErrataRow_pence_74 : decode c_ErrataRow_pence 74 = .ok (.ifCond .ne 5, 3) := by decide +kernel
theorem d_ErrataRow_pence_77 : decode c_ErrataRow_pence 77 = .ok (.iconst 0, 1) := by decide +kernel
theorem d_ErrataRow_pence_78 : decode c_ErrataRow_pence 78 = .ok (.ireturn, 1) := by decide +kernel
theorem d_ErrataRow_pence_79 : decode c_ErrataRow_pence 79 = .ok (.iload_n 1, 1) := by decide +kernel
theorem d_ErrataRow_pence_80 : decode c_ErrataRow_pence 80 = .ok (.istore 6, 2) := by decide +kernel
theorem d_ErrataRow_pence_82 : decode c_ErrataRow_pence 82 = .ok (.iload_n 1, 1) := by decide +kernel
theorem d_ErrataRow_pence_83 : decode c_ErrataRow_pence 83 = .ok (.aload_n 3, 1) := by decide +kernel
theorem d_ErrataRow_pence_84 : decode c_ErrataRow_pence 84 = .ok (.iload_n 2, 1) := by decide +kernel
theorem d_ErrataRow_pence_85 : decode c_ErrataRow_pence 85 = .ok (.iaload, 1) := by decide +kernel
theorem d_ErrataRow_pence_86 : decode c_ErrataRow_pence 86 = .ok (.imul, 1) := by decide +kernel
theorem d_ErrataRow_pence_87 : decode c_ErrataRow_pence 87 = .ok (.iload 5, 2) := by decide +kernel
theorem d_ErrataRow_pence_89 : decode c_ErrataRow_pence 89 = .ok (.irem, 1) := by decide +kernel
theorem d_ErrataRow_pence_90 : decode c_ErrataRow_pence 90 = .ok (.istore 7, 2) := by decide +kernel
theorem d_ErrataRow_pence_92 : decode c_ErrataRow_pence 92 = .ok (.iconst 0, 1) := by decide +kernel
theorem d_ErrataRow_pence_93 : decode c_ErrataRow_pence 93 = .ok (.istore 8, 2) := by decide +kernel
theorem d_ErrataRow_pence_95 : decode c_ErrataRow_pence 95 = .ok (.iconst 0, 1) := by decide +kernel
theorem d_ErrataRow_pence_96 : decode c_ErrataRow_pence 96 = .ok (.istore 9, 2) := by decide +kernel
theorem d_ErrataRow_pence_98 : decode c_ErrataRow_pence 98 = .ok (.iload 9, 2) := by decide +kernel
theorem d_ErrataRow_pence_100 : decode c_ErrataRow_pence 100 = .ok (.iload 4, 2) := by decide +kernel
theorem d_ErrataRow_pence_102 : decode c_ErrataRow_pence 102 = .ok (.if_icmp .ge 57, 3) := by decide +kernel
theorem d_ErrataRow_pence_105 : decode c_ErrataRow_pence 105 = .ok (.iload 6, 2) := by decide +kernel
theorem d_ErrataRow_pence_107 : decode c_ErrataRow_pence 107 = .ok (.iload_n 1, 1) := by decide +kernel
theorem d_ErrataRow_pence_108 : decode c_ErrataRow_pence 108 = .ok (.aload_n 3, 1) := by decide +kernel
theorem d_ErrataRow_pence_109 : decode c_ErrataRow_pence 109 = .ok (.iload 9, 2) := by decide +kernel
theorem d_ErrataRow_pence_111 : decode c_ErrataRow_pence 111 = .ok (.iaload, 1) := by decide +kernel
theorem d_ErrataRow_pence_112 : decode c_ErrataRow_pence 112 = .ok (.imul, 1) := by decide +kernel
theorem d_ErrataRow_pence_113 : decode c_ErrataRow_pence 113 = .ok (.iload 5, 2) := by decide +kernel
theorem d_ErrataRow_pence_115 : decode c_ErrataRow_pence 115 = .ok (.idiv, 1) := by decide +kernel
theorem d_ErrataRow_pence_116 : decode c_ErrataRow_pence 116 = .ok (.isub, 1) := by decide +kernel
theorem d_ErrataRow_pence_117 : decode c_ErrataRow_pence 117 = .ok (.istore 6, 2) := by decide +kernel
theorem d_ErrataRow_pence_119 : decode c_ErrataRow_pence 119 = .ok (.iload_n 1, 1) := by decide +kernel
theorem d_ErrataRow_pence_120 : decode c_ErrataRow_pence 120 = .ok (.aload_n 3, 1) := by decide +kernel
theorem d_ErrataRow_pence_121 : decode c_ErrataRow_pence 121 = .ok (.iload 9, 2) := by decide +kernel
theorem d_ErrataRow_pence_123 : decode c_ErrataRow_pence 123 = .ok (.iaload, 1) := by decide +kernel
theorem d_ErrataRow_pence_124 : decode c_ErrataRow_pence 124 = .ok (.imul, 1) := by decide +kernel
theorem d_ErrataRow_pence_125 : decode c_ErrataRow_pence 125 = .ok (.iload 5, 2) := by decide +kernel
theorem d_ErrataRow_pence_127 : decode c_ErrataRow_pence 127 = .ok (.irem, 1) := by decide +kernel
theorem d_ErrataRow_pence_128 : decode c_ErrataRow_pence 128 = .ok (.istore 10, 2) := by decide +kernel
theorem d_ErrataRow_pence_130 : decode c_ErrataRow_pence 130 = .ok (.iload 10, 2) := by decide +kernel
theorem d_ErrataRow_pence_132 : decode c_ErrataRow_pence 132 = .ok (.iload 7, 2) := by decide +kernel
theorem d_ErrataRow_pence_134 : decode c_ErrataRow_pence 134 = .ok (.if_icmp .gt 16, 3) := by decide +kernel
theorem d_ErrataRow_pence_137 : decode c_ErrataRow_pence 137 = .ok (.iload 10, 2) := by decide +kernel
theorem d_ErrataRow_pence_139 : decode c_ErrataRow_pence 139 = .ok (.iload 7, 2) := by decide +kernel
theorem d_ErrataRow_pence_141 : decode c_ErrataRow_pence 141 = .ok (.if_icmp .ne 12, 3) := by decide +kernel
theorem d_ErrataRow_pence_144 : decode c_ErrataRow_pence 144 = .ok (.iload 9, 2) := by decide +kernel
theorem d_ErrataRow_pence_146 : decode c_ErrataRow_pence 146 = .ok (.iload_n 2, 1) := by decide +kernel
theorem d_ErrataRow_pence_147 : decode c_ErrataRow_pence 147 = .ok (.if_icmp .ge 6, 3) := by decide +kernel
theorem d_ErrataRow_pence_150 : decode c_ErrataRow_pence 150 = .ok (.iinc 8 1, 3) := by decide +kernel
theorem d_ErrataRow_pence_153 : decode c_ErrataRow_pence 153 = .ok (.iinc 9 1, 3) := by decide +kernel
theorem d_ErrataRow_pence_156 : decode c_ErrataRow_pence 156 = .ok (.goto (-58), 3) := by decide +kernel
theorem d_ErrataRow_pence_159 : decode c_ErrataRow_pence 159 = .ok (.iload_n 1, 1) := by decide +kernel
theorem d_ErrataRow_pence_160 : decode c_ErrataRow_pence 160 = .ok (.aload_n 3, 1) := by decide +kernel
theorem d_ErrataRow_pence_161 : decode c_ErrataRow_pence 161 = .ok (.iload_n 2, 1) := by decide +kernel
theorem d_ErrataRow_pence_162 : decode c_ErrataRow_pence 162 = .ok (.iaload, 1) := by decide +kernel
theorem d_ErrataRow_pence_163 : decode c_ErrataRow_pence 163 = .ok (.imul, 1) := by decide +kernel
theorem d_ErrataRow_pence_164 : decode c_ErrataRow_pence 164 = .ok (.iload 5, 2) := by decide +kernel
theorem d_ErrataRow_pence_166 : decode c_ErrataRow_pence 166 = .ok (.idiv, 1) := by decide +kernel
theorem d_ErrataRow_pence_167 : decode c_ErrataRow_pence 167 = .ok (.iload 8, 2) := by decide +kernel
theorem d_ErrataRow_pence_169 : decode c_ErrataRow_pence 169 = .ok (.iload 6, 2) := by decide +kernel
theorem d_ErrataRow_pence_171 : decode c_ErrataRow_pence 171 = .ok (.if_icmp .ge 7, 3) := by decide +kernel
theorem d_ErrataRow_pence_174 : decode c_ErrataRow_pence 174 = .ok (.iconst 1, 1) := by decide +kernel
theorem d_ErrataRow_pence_175 : decode c_ErrataRow_pence 175 = .ok (.goto 4, 3) := by decide +kernel
theorem d_ErrataRow_pence_178 : decode c_ErrataRow_pence 178 = .ok (.iconst 0, 1) := by decide +kernel
theorem d_ErrataRow_pence_179 : decode c_ErrataRow_pence 179 = .ok (.iadd, 1) := by decide +kernel
theorem d_ErrataRow_pence_180 : decode c_ErrataRow_pence 180 = .ok (.ireturn, 1) := by decide +kernel
abbrev c_ErrataRow_one : ByteArray := prog_1_method_41_code
def y_ErrataRow_one : MethodName := ⟨RX11, "one", "(II)I"⟩
theorem d_ErrataRow_one_0 : decode c_ErrataRow_one 0 = .ok (.aload_n 0, 1) := by decide +kernel
theorem d_ErrataRow_one_1 : decode c_ErrataRow_one 1 = .ok (.getfield 45, 3) := by decide +kernel
theorem d_ErrataRow_one_4 : decode c_ErrataRow_one 4 = .ok (.getfield 62, 3) := by decide +kernel
theorem d_ErrataRow_one_7 : decode c_ErrataRow_one 7 = .ok (.getfield 160, 3) := by decide +kernel
theorem d_ErrataRow_one_10 : decode c_ErrataRow_one 10 = .ok (.ifCond .eq 22, 3) := by decide +kernel
theorem d_ErrataRow_one_13 : decode c_ErrataRow_one 13 = .ok (.iload_n 1, 1) := by decide +kernel
theorem d_ErrataRow_one_14 : decode c_ErrataRow_one 14 = .ok (.iconst 1, 1) := by decide +kernel
theorem d_ErrataRow_one_15 : decode c_ErrataRow_one 15 = .ok (.bipush 40, 2) := by decide +kernel
theorem d_ErrataRow_one_17 : decode c_ErrataRow_one 17 = .ok (.invokestatic 166, 3) := by decide +kernel
theorem d_ErrataRow_one_20 : decode c_ErrataRow_one 20 = .ok (.ifCond .eq 12, 3) := by decide +kernel
theorem d_ErrataRow_one_23 : decode c_ErrataRow_one 23 = .ok (.iload_n 2, 1) := by decide +kernel
theorem d_ErrataRow_one_24 : decode c_ErrataRow_one 24 = .ok (.iconst 0, 1) := by decide +kernel
theorem d_ErrataRow_one_25 : decode c_ErrataRow_one 25 = .ok (.iconst 2, 1) := by decide +kernel
theorem d_ErrataRow_one_26 : decode c_ErrataRow_one 26 = .ok (.invokestatic 166, 3) := by decide +kernel
theorem d_ErrataRow_one_29 : decode c_ErrataRow_one 29 = .ok (.ifCond .ne 6, 3) := by decide +kernel
theorem d_ErrataRow_one_32 : decode c_ErrataRow_one 32 = .ok (.bipush (-2), 2) := by decide +kernel
theorem d_ErrataRow_one_34 : decode c_ErrataRow_one 34 = .ok (.ireturn, 1) := by decide +kernel
theorem d_ErrataRow_one_35 : decode c_ErrataRow_one 35 = .ok (.aload_n 0, 1) := by decide +kernel
theorem d_ErrataRow_one_36 : decode c_ErrataRow_one 36 = .ok (.aload_n 0, 1) := by decide +kernel
theorem d_ErrataRow_one_37 : decode c_ErrataRow_one 37 = .ok (.iconst (-1), 1) := by decide +kernel
theorem d_ErrataRow_one_38 : decode c_ErrataRow_one 38 = .ok (.iconst (-1), 1) := by decide +kernel
theorem d_ErrataRow_one_39 : decode c_ErrataRow_one 39 = .ok (.iload_n 1, 1) := by decide +kernel
theorem d_ErrataRow_one_40 : decode c_ErrataRow_one 40 = .ok (.invokevirtual 297, 3) := by decide +kernel
theorem d_ErrataRow_one_43 : decode c_ErrataRow_one 43 = .ok (.iconst (-1), 1) := by decide +kernel
theorem d_ErrataRow_one_44 : decode c_ErrataRow_one 44 = .ok (.iconst (-1), 1) := by decide +kernel
theorem d_ErrataRow_one_45 : decode c_ErrataRow_one 45 = .ok (.invokevirtual 293, 3) := by decide +kernel
theorem d_ErrataRow_one_48 : decode c_ErrataRow_one 48 = .ok (.iconst 0, 1) := by decide +kernel
theorem d_ErrataRow_one_49 : decode c_ErrataRow_one 49 = .ok (.istore_n 3, 1) := by decide +kernel
theorem d_ErrataRow_one_50 : decode c_ErrataRow_one 50 = .ok (.iload_n 3, 1) := by decide +kernel
theorem d_ErrataRow_one_51 : decode c_ErrataRow_one 51 = .ok (.aload_n 0, 1) := by decide +kernel
theorem d_ErrataRow_one_52 : decode c_ErrataRow_one 52 = .ok (.getfield 45, 3) := by decide +kernel
theorem d_ErrataRow_one_55 : decode c_ErrataRow_one 55 = .ok (.getfield 62, 3) := by decide +kernel
theorem d_ErrataRow_one_58 : decode c_ErrataRow_one 58 = .ok (.getfield 123, 3) := by decide +kernel
theorem d_ErrataRow_one_61 : decode c_ErrataRow_one 61 = .ok (.if_icmp .ge 55, 3) := by decide +kernel
theorem d_ErrataRow_one_64 : decode c_ErrataRow_one 64 = .ok (.iconst 0, 1) := by decide +kernel
theorem d_ErrataRow_one_65 : decode c_ErrataRow_one 65 = .ok (.istore 4, 2) := by decide +kernel
theorem d_ErrataRow_one_67 : decode c_ErrataRow_one 67 = .ok (.iload 4, 2) := by decide +kernel
theorem d_ErrataRow_one_69 : decode c_ErrataRow_one 69 = .ok (.bipush 8, 2) := by decide +kernel
theorem d_ErrataRow_one_71 : decode c_ErrataRow_one 71 = .ok (.if_icmp .ge 39, 3) := by decide +kernel
theorem d_ErrataRow_one_74 : decode c_ErrataRow_one 74 = .ok (.aload_n 0, 1) := by decide +kernel
theorem d_ErrataRow_one_75 : decode c_ErrataRow_one 75 = .ok (.iload_n 3, 1) := by decide +kernel
theorem d_ErrataRow_one_76 : decode c_ErrataRow_one 76 = .ok (.iload 4, 2) := by decide +kernel
theorem d_ErrataRow_one_78 : decode c_ErrataRow_one 78 = .ok (.iload_n 1, 1) := by decide +kernel
theorem d_ErrataRow_one_79 : decode c_ErrataRow_one 79 = .ok (.invokevirtual 297, 3) := by decide +kernel
theorem d_ErrataRow_one_82 : decode c_ErrataRow_one 82 = .ok (.istore 5, 2) := by decide +kernel
theorem d_ErrataRow_one_84 : decode c_ErrataRow_one 84 = .ok (.iload 5, 2) := by decide +kernel
theorem d_ErrataRow_one_86 : decode c_ErrataRow_one 86 = .ok (.aload_n 0, 1) := by decide +kernel
theorem d_ErrataRow_one_87 : decode c_ErrataRow_one 87 = .ok (.getfield 89, 3) := by decide +kernel
theorem d_ErrataRow_one_90 : decode c_ErrataRow_one 90 = .ok (.iconst 0, 1) := by decide +kernel
theorem d_ErrataRow_one_91 : decode c_ErrataRow_one 91 = .ok (.iaload, 1) := by decide +kernel
theorem d_ErrataRow_one_92 : decode c_ErrataRow_one 92 = .ok (.if_icmp .ge 12, 3) := by decide +kernel
theorem d_ErrataRow_one_95 : decode c_ErrataRow_one 95 = .ok (.aload_n 0, 1) := by decide +kernel
theorem d_ErrataRow_one_96 : decode c_ErrataRow_one 96 = .ok (.iload 5, 2) := by decide +kernel
theorem d_ErrataRow_one_98 : decode c_ErrataRow_one 98 = .ok (.iload_n 3, 1) := by decide +kernel
theorem d_ErrataRow_one_99 : decode c_ErrataRow_one 99 = .ok (.iload 4, 2) := by decide +kernel
theorem d_ErrataRow_one_101 : decode c_ErrataRow_one 101 = .ok (.invokevirtual 293, 3) := by decide +kernel
theorem d_ErrataRow_one_104 : decode c_ErrataRow_one 104 = .ok (.iinc 4 1, 3) := by decide +kernel
theorem d_ErrataRow_one_107 : decode c_ErrataRow_one 107 = .ok (.goto (-40), 3) := by decide +kernel
theorem d_ErrataRow_one_110 : decode c_ErrataRow_one 110 = .ok (.iinc 3 1, 3) := by decide +kernel
theorem d_ErrataRow_one_113 : decode c_ErrataRow_one 113 = .ok (.goto (-63), 3) := by decide +kernel
theorem d_ErrataRow_one_116 : decode c_ErrataRow_one 116 = .ok (.aload_n 0, 1) := by decide +kernel
theorem d_ErrataRow_one_117 : decode c_ErrataRow_one 117 = .ok (.getfield 89, 3) := by decide +kernel
theorem d_ErrataRow_one_120 : decode c_ErrataRow_one 120 = .ok (.iload_n 2, 1) := by decide +kernel
theorem d_ErrataRow_one_121 : decode c_ErrataRow_one 121 = .ok (.iaload, 1) := by decide +kernel
theorem d_ErrataRow_one_122 : decode c_ErrataRow_one 122 = .ok (.ireturn, 1) := by decide +kernel
abbrev c_ErrataRow_wrongAhead : ByteArray := prog_1_method_42_code
def y_ErrataRow_wrongAhead : MethodName := ⟨RX11, "wrongAhead", "(III)I"⟩
theorem d_ErrataRow_wrongAhead_0 : decode c_ErrataRow_wrongAhead 0 = .ok (.aload_n 0, 1) := by decide +kernel
theorem d_ErrataRow_wrongAhead_1 : decode c_ErrataRow_wrongAhead 1 = .ok (.aload_n 0, 1) := by decide +kernel
theorem d_ErrataRow_wrongAhead_2 : decode c_ErrataRow_wrongAhead 2 = .ok (.getfield 45, 3) := by decide +kernel
theorem d_ErrataRow_wrongAhead_5 : decode c_ErrataRow_wrongAhead 5 = .ok (.getfield 145, 3) := by decide +kernel
theorem d_ErrataRow_wrongAhead_8 : decode c_ErrataRow_wrongAhead 8 = .ok (.invokevirtual 252, 3) := by decide +kernel
theorem d_ErrataRow_wrongAhead_11 : decode c_ErrataRow_wrongAhead 11 = .ok (.aload_n 0, 1) := by decide +kernel
theorem d_ErrataRow_wrongAhead_12 : decode c_ErrataRow_wrongAhead 12 = .ok (.iload_n 1, 1) := by decide +kernel
theorem d_ErrataRow_wrongAhead_13 : decode c_ErrataRow_wrongAhead 13 = .ok (.invokevirtual 141, 3) := by decide +kernel
theorem d_ErrataRow_wrongAhead_16 : decode c_ErrataRow_wrongAhead 16 = .ok (.ifCond .eq 13, 3) := by decide +kernel
theorem d_ErrataRow_wrongAhead_19 : decode c_ErrataRow_wrongAhead 19 = .ok (.aload_n 0, 1) := by decide +kernel
theorem d_ErrataRow_wrongAhead_20 : decode c_ErrataRow_wrongAhead 20 = .ok (.getfield 85, 3) := by decide +kernel
theorem d_ErrataRow_wrongAhead_23 : decode c_ErrataRow_wrongAhead 23 = .ok (.getfield 148, 3) := by decide +kernel
theorem d_ErrataRow_wrongAhead_26 : decode c_ErrataRow_wrongAhead 26 = .ok (.iload_n 1, 1) := by decide +kernel
theorem d_ErrataRow_wrongAhead_27 : decode c_ErrataRow_wrongAhead 27 = .ok (.iload_n 2, 1) := by decide +kernel
theorem d_ErrataRow_wrongAhead_28 : decode c_ErrataRow_wrongAhead 28 = .ok (.iastore, 1) := by decide +kernel
theorem d_ErrataRow_wrongAhead_29 : decode c_ErrataRow_wrongAhead 29 = .ok (.aload_n 0, 1) := by decide +kernel
theorem d_ErrataRow_wrongAhead_30 : decode c_ErrataRow_wrongAhead 30 = .ok (.iload_n 3, 1) := by decide +kernel
theorem d_ErrataRow_wrongAhead_31 : decode c_ErrataRow_wrongAhead 31 = .ok (.invokevirtual 255, 3) := by decide +kernel
theorem d_ErrataRow_wrongAhead_34 : decode c_ErrataRow_wrongAhead 34 = .ok (.aload_n 0, 1) := by decide +kernel
theorem d_ErrataRow_wrongAhead_35 : decode c_ErrataRow_wrongAhead 35 = .ok (.getfield 69, 3) := by decide +kernel
theorem d_ErrataRow_wrongAhead_38 : decode c_ErrataRow_wrongAhead 38 = .ok (.aload_n 0, 1) := by decide +kernel
theorem d_ErrataRow_wrongAhead_39 : decode c_ErrataRow_wrongAhead 39 = .ok (.getfield 85, 3) := by decide +kernel
theorem d_ErrataRow_wrongAhead_42 : decode c_ErrataRow_wrongAhead 42 = .ok (.invokevirtual 225, 3) := by decide +kernel
theorem d_ErrataRow_wrongAhead_45 : decode c_ErrataRow_wrongAhead 45 = .ok (.ireturn, 1) := by decide +kernel
abbrev c_ErrataRow_leftOff : ByteArray := prog_1_method_43_code
def y_ErrataRow_leftOff : MethodName := ⟨RX11, "leftOff", "(II)I"⟩
theorem d_ErrataRow_leftOff_0 : decode c_ErrataRow_leftOff 0 = .ok (.aload_n 0, 1) := by decide +kernel
theorem d_ErrataRow_leftOff_1 : decode c_ErrataRow_leftOff 1 = .ok (.getfield 45, 3) := by decide +kernel
theorem d_ErrataRow_leftOff_4 : decode c_ErrataRow_leftOff 4 = .ok (.getfield 62, 3) := by decide +kernel
theorem d_ErrataRow_leftOff_7 : decode c_ErrataRow_leftOff 7 = .ok (.getfield 160, 3) := by decide +kernel
theorem d_ErrataRow_leftOff_10 : decode c_ErrataRow_leftOff 10 = .ok (.ifCond .eq 22, 3) := by decide +kernel
theorem d_ErrataRow_leftOff_13 : decode c_ErrataRow_leftOff 13 = .ok (.iload_n 1, 1) := by decide +kernel
theorem d_ErrataRow_leftOff_14 : decode c_ErrataRow_leftOff 14 = .ok (.iconst 1, 1) := by decide +kernel
theorem d_ErrataRow_leftOff_15 : decode c_ErrataRow_leftOff 15 = .ok (.bipush 40, 2) := by decide +kernel
theorem d_ErrataRow_leftOff_17 : decode c_ErrataRow_leftOff 17 = .ok (.invokestatic 166, 3) := by decide +kernel
theorem d_ErrataRow_leftOff_20 : decode c_ErrataRow_leftOff 20 = .ok (.ifCond .eq 12, 3) := by decide +kernel
theorem d_ErrataRow_leftOff_23 : decode c_ErrataRow_leftOff 23 = .ok (.iload_n 2, 1) := by decide +kernel
theorem d_ErrataRow_leftOff_24 : decode c_ErrataRow_leftOff 24 = .ok (.iconst 0, 1) := by decide +kernel
theorem d_ErrataRow_leftOff_25 : decode c_ErrataRow_leftOff 25 = .ok (.iconst 1, 1) := by decide +kernel
theorem d_ErrataRow_leftOff_26 : decode c_ErrataRow_leftOff 26 = .ok (.invokestatic 166, 3) := by decide +kernel
theorem d_ErrataRow_leftOff_29 : decode c_ErrataRow_leftOff 29 = .ok (.ifCond .ne 6, 3) := by decide +kernel
theorem d_ErrataRow_leftOff_32 : decode c_ErrataRow_leftOff 32 = .ok (.bipush (-2), 2) := by decide +kernel
theorem d_ErrataRow_leftOff_34 : decode c_ErrataRow_leftOff 34 = .ok (.ireturn, 1) := by decide +kernel
theorem d_ErrataRow_leftOff_35 : decode c_ErrataRow_leftOff 35 = .ok (.iconst (-1), 1) := by decide +kernel
theorem d_ErrataRow_leftOff_36 : decode c_ErrataRow_leftOff 36 = .ok (.istore_n 3, 1) := by decide +kernel
theorem d_ErrataRow_leftOff_37 : decode c_ErrataRow_leftOff 37 = .ok (.bipush 11, 2) := by decide +kernel
theorem d_ErrataRow_leftOff_39 : decode c_ErrataRow_leftOff 39 = .ok (.istore 4, 2) := by decide +kernel
theorem d_ErrataRow_leftOff_41 : decode c_ErrataRow_leftOff 41 = .ok (.iconst (-1), 1) := by decide +kernel
theorem d_ErrataRow_leftOff_42 : decode c_ErrataRow_leftOff 42 = .ok (.istore 5, 2) := by decide +kernel
theorem d_ErrataRow_leftOff_44 : decode c_ErrataRow_leftOff 44 = .ok (.iload 5, 2) := by decide +kernel
theorem d_ErrataRow_leftOff_46 : decode c_ErrataRow_leftOff 46 = .ok (.aload_n 0, 1) := by decide +kernel
theorem d_ErrataRow_leftOff_47 : decode c_ErrataRow_leftOff 47 = .ok (.getfield 45, 3) := by decide +kernel
theorem d_ErrataRow_leftOff_50 : decode c_ErrataRow_leftOff 50 = .ok (.getfield 62, 3) := by decide +kernel
theorem d_ErrataRow_leftOff_53 : decode c_ErrataRow_leftOff 53 = .ok (.getfield 301, 3) := by decide +kernel
theorem d_ErrataRow_leftOff_56 : decode c_ErrataRow_leftOff 56 = .ok (.if_icmp .ge 61, 3) := by decide +kernel
theorem d_ErrataRow_leftOff_59 : decode c_ErrataRow_leftOff 59 = .ok (.aload_n 0, 1) := by decide +kernel
theorem d_ErrataRow_leftOff_60 : decode c_ErrataRow_leftOff 60 = .ok (.aload_n 0, 1) := by decide +kernel
theorem d_ErrataRow_leftOff_61 : decode c_ErrataRow_leftOff 61 = .ok (.getfield 45, 3) := by decide +kernel
theorem d_ErrataRow_leftOff_64 : decode c_ErrataRow_leftOff 64 = .ok (.getfield 145, 3) := by decide +kernel
theorem d_ErrataRow_leftOff_67 : decode c_ErrataRow_leftOff 67 = .ok (.invokevirtual 252, 3) := by decide +kernel
theorem d_ErrataRow_leftOff_70 : decode c_ErrataRow_leftOff 70 = .ok (.aload_n 0, 1) := by decide +kernel
theorem d_ErrataRow_leftOff_71 : decode c_ErrataRow_leftOff 71 = .ok (.getfield 69, 3) := by decide +kernel
theorem d_ErrataRow_leftOff_74 : decode c_ErrataRow_leftOff 74 = .ok (.iload 5, 2) := by decide +kernel
theorem d_ErrataRow_leftOff_76 : decode c_ErrataRow_leftOff 76 = .ok (.putfield 246, 3) := by decide +kernel
theorem d_ErrataRow_leftOff_79 : decode c_ErrataRow_leftOff 79 = .ok (.aload_n 0, 1) := by decide +kernel
theorem d_ErrataRow_leftOff_80 : decode c_ErrataRow_leftOff 80 = .ok (.iload_n 1, 1) := by decide +kernel
theorem d_ErrataRow_leftOff_81 : decode c_ErrataRow_leftOff 81 = .ok (.invokevirtual 255, 3) := by decide +kernel
theorem d_ErrataRow_leftOff_84 : decode c_ErrataRow_leftOff 84 = .ok (.aload_n 0, 1) := by decide +kernel
theorem d_ErrataRow_leftOff_85 : decode c_ErrataRow_leftOff 85 = .ok (.getfield 69, 3) := by decide +kernel
theorem d_ErrataRow_leftOff_88 : decode c_ErrataRow_leftOff 88 = .ok (.aload_n 0, 1) := by decide +kernel
theorem d_ErrataRow_leftOff_89 : decode c_ErrataRow_leftOff 89 = .ok (.getfield 85, 3) := by decide +kernel
theorem d_ErrataRow_leftOff_92 : decode c_ErrataRow_leftOff 92 = .ok (.invokevirtual 225, 3) := by decide +kernel
theorem d_ErrataRow_leftOff_95 : decode c_ErrataRow_leftOff 95 = .ok (.istore 6, 2) := by decide +kernel
theorem d_ErrataRow_leftOff_97 : decode c_ErrataRow_leftOff 97 = .ok (.iload 6, 2) := by decide +kernel
theorem d_ErrataRow_leftOff_99 : decode c_ErrataRow_leftOff 99 = .ok (.iload 4, 2) := by decide +kernel
theorem d_ErrataRow_leftOff_101 : decode c_ErrataRow_leftOff 101 = .ok (.if_icmp .ge 10, 3) := by decide +kernel
theorem d_ErrataRow_leftOff_104 : decode c_ErrataRow_leftOff 104 = .ok (.iload 6, 2) := by decide +kernel
theorem d_ErrataRow_leftOff_106 : decode c_ErrataRow_leftOff 106 = .ok (.istore 4, 2) := by decide +kernel
theorem d_ErrataRow_leftOff_108 : decode c_ErrataRow_leftOff 108 = .ok (.iload 5, 2) := by decide +kernel
theorem d_ErrataRow_leftOff_110 : decode c_ErrataRow_leftOff 110 = .ok (.istore_n 3, 1) := by decide +kernel
theorem d_ErrataRow_leftOff_111 : decode c_ErrataRow_leftOff 111 = .ok (.iinc 5 1, 3) := by decide +kernel
theorem d_ErrataRow_leftOff_114 : decode c_ErrataRow_leftOff 114 = .ok (.goto (-70), 3) := by decide +kernel
theorem d_ErrataRow_leftOff_117 : decode c_ErrataRow_leftOff 117 = .ok (.iload_n 2, 1) := by decide +kernel
theorem d_ErrataRow_leftOff_118 : decode c_ErrataRow_leftOff 118 = .ok (.ifCond .ne 7, 3) := by decide +kernel
theorem d_ErrataRow_leftOff_121 : decode c_ErrataRow_leftOff 121 = .ok (.iload_n 3, 1) := by decide +kernel
theorem d_ErrataRow_leftOff_122 : decode c_ErrataRow_leftOff 122 = .ok (.goto 5, 3) := by decide +kernel
theorem d_ErrataRow_leftOff_125 : decode c_ErrataRow_leftOff 125 = .ok (.iload 4, 2) := by decide +kernel
theorem d_ErrataRow_leftOff_127 : decode c_ErrataRow_leftOff 127 = .ok (.ireturn, 1) := by decide +kernel
abbrev c_ErrataRow_leastPurse : ByteArray := prog_1_method_44_code
def y_ErrataRow_leastPurse : MethodName := ⟨RX11, "leastPurse", "(I)I"⟩
theorem d_ErrataRow_leastPurse_0 : decode c_ErrataRow_leastPurse 0 = .ok (.aload_n 0, 1) := by decide +kernel
theorem d_ErrataRow_leastPurse_1 : decode c_ErrataRow_leastPurse 1 = .ok (.getfield 45, 3) := by decide +kernel
theorem d_ErrataRow_leastPurse_4 : decode c_ErrataRow_leastPurse 4 = .ok (.getfield 62, 3) := by decide +kernel
theorem d_ErrataRow_leastPurse_7 : decode c_ErrataRow_leastPurse 7 = .ok (.getfield 160, 3) := by decide +kernel
theorem d_ErrataRow_leastPurse_10 : decode c_ErrataRow_leastPurse 10 = .ok (.ifCond .eq 13, 3) := by decide +kernel
theorem d_ErrataRow_leastPurse_13 : decode c_ErrataRow_leastPurse 13 = .ok (.iload_n 1, 1) := by decide +kernel
theorem d_ErrataRow_leastPurse_14 : decode c_ErrataRow_leastPurse 14 = .ok (.iconst 1, 1) := by decide +kernel
theorem d_ErrataRow_leastPurse_15 : decode c_ErrataRow_leastPurse 15 = .ok (.bipush 40, 2) := by decide +kernel
theorem d_ErrataRow_leastPurse_17 : decode c_ErrataRow_leastPurse 17 = .ok (.invokestatic 166, 3) := by decide +kernel
theorem d_ErrataRow_leastPurse_20 : decode c_ErrataRow_leastPurse 20 = .ok (.ifCond .ne 5, 3) := by decide +kernel
theorem d_ErrataRow_leastPurse_23 : decode c_ErrataRow_leastPurse 23 = .ok (.iconst (-1), 1) := by decide +kernel
theorem d_ErrataRow_leastPurse_24 : decode c_ErrataRow_leastPurse 24 = .ok (.ireturn, 1) := by decide +kernel
theorem d_ErrataRow_leastPurse_25 : decode c_ErrataRow_leastPurse 25 = .ok (.aload_n 0, 1) := by decide +kernel
theorem d_ErrataRow_leastPurse_26 : decode c_ErrataRow_leastPurse 26 = .ok (.aload_n 0, 1) := by decide +kernel
theorem d_ErrataRow_leastPurse_27 : decode c_ErrataRow_leastPurse 27 = .ok (.getfield 45, 3) := by decide +kernel
theorem d_ErrataRow_leastPurse_30 : decode c_ErrataRow_leastPurse 30 = .ok (.getfield 145, 3) := by decide +kernel
theorem d_ErrataRow_leastPurse_33 : decode c_ErrataRow_leastPurse 33 = .ok (.invokevirtual 252, 3) := by decide +kernel
theorem d_ErrataRow_leastPurse_36 : decode c_ErrataRow_leastPurse 36 = .ok (.aload_n 0, 1) := by decide +kernel
theorem d_ErrataRow_leastPurse_37 : decode c_ErrataRow_leastPurse 37 = .ok (.getfield 69, 3) := by decide +kernel
theorem d_ErrataRow_leastPurse_40 : decode c_ErrataRow_leastPurse 40 = .ok (.getfield 242, 3) := by decide +kernel
theorem d_ErrataRow_leastPurse_43 : decode c_ErrataRow_leastPurse 43 = .ok (.ifnull 18, 3) := by decide +kernel
theorem d_ErrataRow_leastPurse_46 : decode c_ErrataRow_leastPurse 46 = .ok (.aload_n 0, 1) := by decide +kernel
theorem d_ErrataRow_leastPurse_47 : decode c_ErrataRow_leastPurse 47 = .ok (.getfield 69, 3) := by decide +kernel
theorem d_ErrataRow_leastPurse_50 : decode c_ErrataRow_leastPurse 50 = .ok (.getfield 242, 3) := by decide +kernel
theorem d_ErrataRow_leastPurse_53 : decode c_ErrataRow_leastPurse 53 = .ok (.bipush 7, 2) := by decide +kernel
theorem d_ErrataRow_leastPurse_55 : decode c_ErrataRow_leastPurse 55 = .ok (.invokevirtual 304, 3) := by decide +kernel
theorem d_ErrataRow_leastPurse_58 : decode c_ErrataRow_leastPurse 58 = .ok (.ifCond .ne 9, 3) := by decide +kernel
theorem d_ErrataRow_leastPurse_61 : decode c_ErrataRow_leastPurse 61 = .ok (.aload_n 0, 1) := by decide +kernel
theorem d_ErrataRow_leastPurse_62 : decode c_ErrataRow_leastPurse 62 = .ok (.iload_n 1, 1) := by decide +kernel
theorem d_ErrataRow_leastPurse_63 : decode c_ErrataRow_leastPurse 63 = .ok (.invokevirtual 307, 3) := by decide +kernel
theorem d_ErrataRow_leastPurse_66 : decode c_ErrataRow_leastPurse 66 = .ok (.ireturn, 1) := by decide +kernel
theorem d_ErrataRow_leastPurse_67 : decode c_ErrataRow_leastPurse 67 = .ok (.iconst 0, 1) := by decide +kernel
theorem d_ErrataRow_leastPurse_68 : decode c_ErrataRow_leastPurse 68 = .ok (.istore_n 2, 1) := by decide +kernel
theorem d_ErrataRow_leastPurse_69 : decode c_ErrataRow_leastPurse 69 = .ok (.iload_n 2, 1) := by decide +kernel
theorem d_ErrataRow_leastPurse_70 : decode c_ErrataRow_leastPurse 70 = .ok (.sipush 999, 3) := by decide +kernel
theorem d_ErrataRow_leastPurse_73 : decode c_ErrataRow_leastPurse 73 = .ok (.if_icmp .gt 20, 3) := by decide +kernel
theorem d_ErrataRow_leastPurse_76 : decode c_ErrataRow_leastPurse 76 = .ok (.aload_n 0, 1) := by decide +kernel
theorem d_ErrataRow_leastPurse_77 : decode c_ErrataRow_leastPurse 77 = .ok (.iload_n 2, 1) := by decide +kernel
theorem d_ErrataRow_leastPurse_78 : decode c_ErrataRow_leastPurse 78 = .ok (.iload_n 1, 1) := by decide +kernel
theorem d_ErrataRow_leastPurse_79 : decode c_ErrataRow_leastPurse 79 = .ok (.invokevirtual 310, 3) := by decide +kernel
theorem d_ErrataRow_leastPurse_82 : decode c_ErrataRow_leastPurse 82 = .ok (.ifCond .eq 5, 3) := by decide +kernel
theorem d_ErrataRow_leastPurse_85 : decode c_ErrataRow_leastPurse 85 = .ok (.iload_n 2, 1) := by decide +kernel
theorem d_ErrataRow_leastPurse_86 : decode c_ErrataRow_leastPurse 86 = .ok (.ireturn, 1) := by decide +kernel
theorem d_ErrataRow_leastPurse_87 : decode c_ErrataRow_leastPurse 87 = .ok (.iinc 2 1, 3) := by decide +kernel
theorem d_ErrataRow_leastPurse_90 : decode c_ErrataRow_leastPurse 90 = .ok (.goto (-21), 3) := by decide +kernel
theorem d_ErrataRow_leastPurse_93 : decode c_ErrataRow_leastPurse 93 = .ok (.bipush (-2), 2) := by decide +kernel
theorem d_ErrataRow_leastPurse_95 : decode c_ErrataRow_leastPurse 95 = .ok (.ireturn, 1) := by decide +kernel
