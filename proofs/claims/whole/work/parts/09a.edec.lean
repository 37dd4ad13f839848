abbrev c_Book_init : ByteArray := prog_2_method_1_code
def y_Book_init : MethodName := ⟨RX0, "<init>", "()V"⟩
theorem d_Book_init_0 : decode c_Book_init 0 = .ok (.aload_n 0, 1) := by decide +kernel
theorem d_Book_init_1 : decode c_Book_init 1 = .ok (.invokespecial 3, 3) := by decide +kernel
theorem d_Book_init_4 : decode c_Book_init 4 = .ok (.aload_n 0, 1) := by decide +kernel
theorem d_Book_init_5 : decode c_Book_init 5 = .ok (.bipush 10, 2) := by decide +kernel
theorem d_Book_init_7 : decode c_Book_init 7 = .ok (.newarray .int, 2) := by decide +kernel
theorem d_Book_init_9 : decode c_Book_init 9 = .ok (.putfield 9, 3) := by decide +kernel
theorem d_Book_init_12 : decode c_Book_init 12 = .ok (.aload_n 0, 1) := by decide +kernel
theorem d_Book_init_13 : decode c_Book_init 13 = .ok (.bipush 12, 2) := by decide +kernel
theorem d_Book_init_15 : decode c_Book_init 15 = .ok (.newarray .int, 2) := by decide +kernel
theorem d_Book_init_17 : decode c_Book_init 17 = .ok (.putfield 15, 3) := by decide +kernel
theorem d_Book_init_20 : decode c_Book_init 20 = .ok (.aload_n 0, 1) := by decide +kernel
theorem d_Book_init_21 : decode c_Book_init 21 = .ok (.bipush 12, 2) := by decide +kernel
theorem d_Book_init_23 : decode c_Book_init 23 = .ok (.newarray .int, 2) := by decide +kernel
theorem d_Book_init_25 : decode c_Book_init 25 = .ok (.putfield 18, 3) := by decide +kernel
theorem d_Book_init_28 : decode c_Book_init 28 = .ok (.aload_n 0, 1) := by decide +kernel
theorem d_Book_init_29 : decode c_Book_init 29 = .ok (.new 21, 3) := by decide +kernel
theorem d_Book_init_32 : decode c_Book_init 32 = .ok (.dup, 1) := by decide +kernel
theorem d_Book_init_33 : decode c_Book_init 33 = .ok (.invokespecial 23, 3) := by decide +kernel
theorem d_Book_init_36 : decode c_Book_init 36 = .ok (.putfield 24, 3) := by decide +kernel
theorem d_Book_init_39 : decode c_Book_init 39 = .ok (.return_, 1) := by decide +kernel
abbrev c_Book_copyFrom : ByteArray := prog_2_method_2_code
def y_Book_copyFrom : MethodName := ⟨RX0, "copyFrom", "(LErrataRow$Book;)V"⟩
theorem d_Book_copyFrom_0 : decode c_Book_copyFrom 0 = .ok (.aload_n 0, 1) := by decide +kernel
theorem d_Book_copyFrom_1 : decode c_Book_copyFrom 1 = .ok (.aload_n 1, 1) := by decide +kernel
theorem d_Book_copyFrom_2 : decode c_Book_copyFrom 2 = .ok (.getfield 28, 3) := by decide +kernel
theorem d_Book_copyFrom_5 : decode c_Book_copyFrom 5 = .ok (.putfield 28, 3) := by decide +kernel
theorem d_Book_copyFrom_8 : decode c_Book_copyFrom 8 = .ok (.aload_n 0, 1) := by decide +kernel
theorem d_Book_copyFrom_9 : decode c_Book_copyFrom 9 = .ok (.aload_n 1, 1) := by decide +kernel
theorem d_Book_copyFrom_10 : decode c_Book_copyFrom 10 = .ok (.getfield 32, 3) := by decide +kernel
theorem d_Book_copyFrom_13 : decode c_Book_copyFrom 13 = .ok (.putfield 32, 3) := by decide +kernel
theorem d_Book_copyFrom_16 : decode c_Book_copyFrom 16 = .ok (.aload_n 0, 1) := by decide +kernel
theorem d_Book_copyFrom_17 : decode c_Book_copyFrom 17 = .ok (.aload_n 1, 1) := by decide +kernel
theorem d_Book_copyFrom_18 : decode c_Book_copyFrom 18 = .ok (.getfield 36, 3) := by decide +kernel
theorem d_Book_copyFrom_21 : decode c_Book_copyFrom 21 = .ok (.putfield 36, 3) := by decide +kernel
theorem d_Book_copyFrom_24 : decode c_Book_copyFrom 24 = .ok (.aload_n 0, 1) := by decide +kernel
theorem d_Book_copyFrom_25 : decode c_Book_copyFrom 25 = .ok (.aload_n 1, 1) := by decide +kernel
theorem d_Book_copyFrom_26 : decode c_Book_copyFrom 26 = .ok (.getfield 39, 3) := by decide +kernel
theorem d_Book_copyFrom_29 : decode c_Book_copyFrom 29 = .ok (.putfield 39, 3) := by decide +kernel
theorem d_Book_copyFrom_32 : decode c_Book_copyFrom 32 = .ok (.aload_n 1, 1) := by decide +kernel
theorem d_Book_copyFrom_33 : decode c_Book_copyFrom 33 = .ok (.getfield 9, 3) := by decide +kernel
theorem d_Book_copyFrom_36 : decode c_Book_copyFrom 36 = .ok (.iconst 0, 1) := by decide +kernel
theorem d_Book_copyFrom_37 : decode c_Book_copyFrom 37 = .ok (.aload_n 0, 1) := by decide +kernel
theorem d_Book_copyFrom_38 : decode c_Book_copyFrom 38 = .ok (.getfield 9, 3) := by decide +kernel
theorem d_Book_copyFrom_41 : decode c_Book_copyFrom 41 = .ok (.iconst 0, 1) := by decide +kernel
theorem d_Book_copyFrom_42 : decode c_Book_copyFrom 42 = .ok (.bipush 10, 2) := by decide +kernel
theorem d_Book_copyFrom_44 : decode c_Book_copyFrom 44 = .ok (.invokestatic 42, 3) := by decide +kernel
theorem d_Book_copyFrom_47 : decode c_Book_copyFrom 47 = .ok (.aload_n 1, 1) := by decide +kernel
theorem d_Book_copyFrom_48 : decode c_Book_copyFrom 48 = .ok (.getfield 15, 3) := by decide +kernel
theorem d_Book_copyFrom_51 : decode c_Book_copyFrom 51 = .ok (.iconst 0, 1) := by decide +kernel
theorem d_Book_copyFrom_52 : decode c_Book_copyFrom 52 = .ok (.aload_n 0, 1) := by decide +kernel
theorem d_Book_copyFrom_53 : decode c_Book_copyFrom 53 = .ok (.getfield 15, 3) := by decide +kernel
theorem d_Book_copyFrom_56 : decode c_Book_copyFrom 56 = .ok (.iconst 0, 1) := by decide +kernel
theorem d_Book_copyFrom_57 : decode c_Book_copyFrom 57 = .ok (.bipush 12, 2) := by decide +kernel
theorem d_Book_copyFrom_59 : decode c_Book_copyFrom 59 = .ok (.invokestatic 42, 3) := by decide +kernel
theorem d_Book_copyFrom_62 : decode c_Book_copyFrom 62 = .ok (.aload_n 1, 1) := by decide +kernel
theorem d_Book_copyFrom_63 : decode c_Book_copyFrom 63 = .ok (.getfield 18, 3) := by decide +kernel
theorem d_Book_copyFrom_66 : decode c_Book_copyFrom 66 = .ok (.iconst 0, 1) := by decide +kernel
theorem d_Book_copyFrom_67 : decode c_Book_copyFrom 67 = .ok (.aload_n 0, 1) := by decide +kernel
theorem d_Book_copyFrom_68 : decode c_Book_copyFrom 68 = .ok (.getfield 18, 3) := by decide +kernel
theorem d_Book_copyFrom_71 : decode c_Book_copyFrom 71 = .ok (.iconst 0, 1) := by decide +kernel
theorem d_Book_copyFrom_72 : decode c_Book_copyFrom 72 = .ok (.bipush 12, 2) := by decide +kernel
theorem d_Book_copyFrom_74 : decode c_Book_copyFrom 74 = .ok (.invokestatic 42, 3) := by decide +kernel
theorem d_Book_copyFrom_77 : decode c_Book_copyFrom 77 = .ok (.aload_n 0, 1) := by decide +kernel
theorem d_Book_copyFrom_78 : decode c_Book_copyFrom 78 = .ok (.getfield 24, 3) := by decide +kernel
theorem d_Book_copyFrom_81 : decode c_Book_copyFrom 81 = .ok (.aload_n 1, 1) := by decide +kernel
theorem d_Book_copyFrom_82 : decode c_Book_copyFrom 82 = .ok (.getfield 24, 3) := by decide +kernel
theorem d_Book_copyFrom_85 : decode c_Book_copyFrom 85 = .ok (.invokevirtual 48, 3) := by decide +kernel
theorem d_Book_copyFrom_88 : decode c_Book_copyFrom 88 = .ok (.return_, 1) := by decide +kernel
abbrev c_Book_clear : ByteArray := prog_2_method_3_code
def y_Book_clear : MethodName := ⟨RX0, "clear", "()V"⟩
theorem d_Book_clear_0 : decode c_Book_clear 0 = .ok (.aload_n 0, 1) := by decide +kernel
theorem d_Book_clear_1 : decode c_Book_clear 1 = .ok (.iconst 0, 1) := by decide +kernel
theorem d_Book_clear_2 : decode c_Book_clear 2 = .ok (.putfield 28, 3) := by decide +kernel
theorem d_Book_clear_5 : decode c_Book_clear 5 = .ok (.aload_n 0, 1) := by decide +kernel
theorem d_Book_clear_6 : decode c_Book_clear 6 = .ok (.iconst 0, 1) := by decide +kernel
theorem d_Book_clear_7 : decode c_Book_clear 7 = .ok (.putfield 32, 3) := by decide +kernel
theorem d_Book_clear_10 : decode c_Book_clear 10 = .ok (.aload_n 0, 1) := by decide +kernel
theorem d_Book_clear_11 : decode c_Book_clear 11 = .ok (.iconst 0, 1) := by decide +kernel
theorem d_Book_clear_12 : decode c_Book_clear 12 = .ok (.putfield 36, 3) := by decide +kernel
theorem d_Book_clear_15 : decode c_Book_clear 15 = .ok (.aload_n 0, 1) := by decide +kernel
theorem d_Book_clear_16 : decode c_Book_clear 16 = .ok (.iconst 0, 1) := by decide +kernel
theorem d_Book_clear_17 : decode c_Book_clear 17 = .ok (.putfield 39, 3) := by decide +kernel
theorem d_Book_clear_20 : decode c_Book_clear 20 = .ok (.aload_n 0, 1) := by decide +kernel
theorem d_Book_clear_21 : decode c_Book_clear 21 = .ok (.getfield 9, 3) := by decide +kernel
theorem d_Book_clear_24 : decode c_Book_clear 24 = .ok (.iconst 0, 1) := by decide +kernel
theorem d_Book_clear_25 : decode c_Book_clear 25 = .ok (.invokestatic 52, 3) := by decide +kernel
theorem d_Book_clear_28 : decode c_Book_clear 28 = .ok (.aload_n 0, 1) := by decide +kernel
theorem d_Book_clear_29 : decode c_Book_clear 29 = .ok (.getfield 15, 3) := by decide +kernel
theorem d_Book_clear_32 : decode c_Book_clear 32 = .ok (.iconst 0, 1) := by decide +kernel
theorem d_Book_clear_33 : decode c_Book_clear 33 = .ok (.invokestatic 52, 3) := by decide +kernel
theorem d_Book_clear_36 : decode c_Book_clear 36 = .ok (.aload_n 0, 1) := by decide +kernel
theorem d_Book_clear_37 : decode c_Book_clear 37 = .ok (.getfield 18, 3) := by decide +kernel
theorem d_Book_clear_40 : decode c_Book_clear 40 = .ok (.iconst 0, 1) := by decide +kernel
theorem d_Book_clear_41 : decode c_Book_clear 41 = .ok (.invokestatic 52, 3) := by decide +kernel
theorem d_Book_clear_44 : decode c_Book_clear 44 = .ok (.aload_n 0, 1) := by decide +kernel
theorem d_Book_clear_45 : decode c_Book_clear 45 = .ok (.getfield 24, 3) := by decide +kernel
theorem d_Book_clear_48 : decode c_Book_clear 48 = .ok (.invokevirtual 58, 3) := by decide +kernel
theorem d_Book_clear_51 : decode c_Book_clear 51 = .ok (.return_, 1) := by decide +kernel
abbrev c_Book_editionsRound : ByteArray := prog_2_method_4_code
def y_Book_editionsRound : MethodName := ⟨RX0, "editionsRound", "()I"⟩
theorem d_Book_editionsRound_0 : decode c_Book_editionsRound 0 = .ok (.aload_n 0, 1) := by decide +kernel
theorem d_Book_editionsRound_1 : decode c_Book_editionsRound 1 = .ok (.getfield 39, 3) := by decide +kernel
theorem d_Book_editionsRound_4 : decode c_Book_editionsRound 4 = .ok (.iconst 1, 1) := by decide +kernel
theorem d_Book_editionsRound_5 : decode c_Book_editionsRound 5 = .ok (.invokestatic 61, 3) := by decide +kernel
theorem d_Book_editionsRound_8 : decode c_Book_editionsRound 8 = .ok (.ireturn, 1) := by decide +kernel
abbrev c_Book_addLetter : ByteArray := prog_2_method_5_code
def y_Book_addLetter : MethodName := ⟨RX0, "addLetter", "(II)V"⟩
theorem d_Book_addLetter_0 : decode c_Book_addLetter 0 = .ok (.aload_n 0, 1) := by decide +kernel
theorem d_Book_addLetter_1 : decode c_Book_addLetter 1 = .ok (.getfield 36, 3) := by decide +kernel
theorem d_Book_addLetter_4 : decode c_Book_addLetter 4 = .ok (.bipush 10, 2) := by decide +kernel
theorem d_Book_addLetter_6 : decode c_Book_addLetter 6 = .ok (.if_icmp .ge 36, 3) := by decide +kernel
theorem d_Book_addLetter_9 : decode c_Book_addLetter 9 = .ok (.aload_n 0, 1) := by decide +kernel
theorem d_Book_addLetter_10 : decode c_Book_addLetter 10 = .ok (.getfield 24, 3) := by decide +kernel
theorem d_Book_addLetter_13 : decode c_Book_addLetter 13 = .ok (.getfield 67, 3) := by decide +kernel
theorem d_Book_addLetter_16 : decode c_Book_addLetter 16 = .ok (.aload_n 0, 1) := by decide +kernel
theorem d_Book_addLetter_17 : decode c_Book_addLetter 17 = .ok (.getfield 36, 3) := by decide +kernel
theorem d_Book_addLetter_20 : decode c_Book_addLetter 20 = .ok (.iload_n 1, 1) := by decide +kernel
theorem d_Book_addLetter_21 : decode c_Book_addLetter 21 = .ok (.iastore, 1) := by decide +kernel
theorem d_Book_addLetter_22 : decode c_Book_addLetter 22 = .ok (.aload_n 0, 1) := by decide +kernel
theorem d_Book_addLetter_23 : decode c_Book_addLetter 23 = .ok (.getfield 9, 3) := by decide +kernel
theorem d_Book_addLetter_26 : decode c_Book_addLetter 26 = .ok (.aload_n 0, 1) := by decide +kernel
theorem d_Book_addLetter_27 : decode c_Book_addLetter 27 = .ok (.getfield 36, 3) := by decide +kernel
theorem d_Book_addLetter_30 : decode c_Book_addLetter 30 = .ok (.iload_n 2, 1) := by decide +kernel
theorem d_Book_addLetter_31 : decode c_Book_addLetter 31 = .ok (.iastore, 1) := by decide +kernel
theorem d_Book_addLetter_32 : decode c_Book_addLetter 32 = .ok (.aload_n 0, 1) := by decide +kernel
theorem d_Book_addLetter_33 : decode c_Book_addLetter 33 = .ok (.dup, 1) := by decide +kernel
theorem d_Book_addLetter_34 : decode c_Book_addLetter 34 = .ok (.getfield 36, 3) := by decide +kernel
theorem d_Book_addLetter_37 : decode c_Book_addLetter 37 = .ok (.iconst 1, 1) := by decide +kernel
theorem d_Book_addLetter_38 : decode c_Book_addLetter 38 = .ok (.iadd, 1) := by decide +kernel
theorem d_Book_addLetter_39 : decode c_Book_addLetter 39 = .ok (.putfield 36, 3) := by decide +kernel
theorem d_Book_addLetter_42 : decode c_Book_addLetter 42 = .ok (.return_, 1) := by decide +kernel
abbrev c_Book_addHabit : ByteArray := prog_2_method_6_code
def y_Book_addHabit : MethodName := ⟨RX0, "addHabit", "(II)V"⟩
theorem d_Book_addHabit_0 : decode c_Book_addHabit 0 = .ok (.aload_n 0, 1) := by decide +kernel
theorem d_Book_addHabit_1 : decode c_Book_addHabit 1 = .ok (.getfield 39, 3) := by decide +kernel
theorem d_Book_addHabit_4 : decode c_Book_addHabit 4 = .ok (.bipush 12, 2) := by decide +kernel
theorem d_Book_addHabit_6 : decode c_Book_addHabit 6 = .ok (.if_icmp .ge 33, 3) := by decide +kernel
theorem d_Book_addHabit_9 : decode c_Book_addHabit 9 = .ok (.aload_n 0, 1) := by decide +kernel
theorem d_Book_addHabit_10 : decode c_Book_addHabit 10 = .ok (.getfield 15, 3) := by decide +kernel
theorem d_Book_addHabit_13 : decode c_Book_addHabit 13 = .ok (.aload_n 0, 1) := by decide +kernel
theorem d_Book_addHabit_14 : decode c_Book_addHabit 14 = .ok (.getfield 39, 3) := by decide +kernel
theorem d_Book_addHabit_17 : decode c_Book_addHabit 17 = .ok (.iload_n 1, 1) := by decide +kernel
theorem d_Book_addHabit_18 : decode c_Book_addHabit 18 = .ok (.iastore, 1) := by decide +kernel
theorem d_Book_addHabit_19 : decode c_Book_addHabit 19 = .ok (.aload_n 0, 1) := by decide +kernel
theorem d_Book_addHabit_20 : decode c_Book_addHabit 20 = .ok (.getfield 18, 3) := by decide +kernel
theorem d_Book_addHabit_23 : decode c_Book_addHabit 23 = .ok (.aload_n 0, 1) := by decide +kernel
theorem d_Book_addHabit_24 : decode c_Book_addHabit 24 = .ok (.getfield 39, 3) := by decide +kernel
theorem d_Book_addHabit_27 : decode c_Book_addHabit 27 = .ok (.iload_n 2, 1) := by decide +kernel
theorem d_Book_addHabit_28 : decode c_Book_addHabit 28 = .ok (.iastore, 1) := by decide +kernel
theorem d_Book_addHabit_29 : decode c_Book_addHabit 29 = .ok (.aload_n 0, 1) := by decide +kernel
theorem d_Book_addHabit_30 : decode c_Book_addHabit 30 = .ok (.dup, 1) := by decide +kernel
theorem d_Book_addHabit_31 : decode c_Book_addHabit 31 = .ok (.getfield 39, 3) := by decide +kernel
theorem d_Book_addHabit_34 : decode c_Book_addHabit 34 = .ok (.iconst 1, 1) := by decide +kernel
theorem d_Book_addHabit_35 : decode c_Book_addHabit 35 = .ok (.iadd, 1) := by decide +kernel
theorem d_Book_addHabit_36 : decode c_Book_addHabit 36 = .ok (.putfield 39, 3) := by decide +kernel
theorem d_Book_addHabit_39 : decode c_Book_addHabit 39 = .ok (.return_, 1) := by decide +kernel
abbrev c_BookReader_init : ByteArray := prog_3_method_1_code
def y_BookReader_init : MethodName := ⟨RX1, "<init>", "(LErrataRow$Tokens;)V"⟩
theorem d_BookReader_init_0 : decode c_BookReader_init 0 = .ok (.aload_n 0, 1) := by decide +kernel
theorem d_BookReader_init_1 : decode c_BookReader_init 1 = .ok (.invokespecial 3, 3) := by decide +kernel
theorem d_BookReader_init_4 : decode c_BookReader_init 4 = .ok (.aload_n 0, 1) := by decide +kernel
theorem d_BookReader_init_5 : decode c_BookReader_init 5 = .ok (.new 9, 3) := by decide +kernel
theorem d_BookReader_init_8 : decode c_BookReader_init 8 = .ok (.dup, 1) := by decide +kernel
theorem d_BookReader_init_9 : decode c_BookReader_init 9 = .ok (.invokespecial 11, 3) := by decide +kernel
theorem d_BookReader_init_12 : decode c_BookReader_init 12 = .ok (.putfield 12, 3) := by decide +kernel
theorem d_BookReader_init_15 : decode c_BookReader_init 15 = .ok (.aload_n 0, 1) := by decide +kernel
theorem d_BookReader_init_16 : decode c_BookReader_init 16 = .ok (.aload_n 1, 1) := by decide +kernel
theorem d_BookReader_init_17 : decode c_BookReader_init 17 = .ok (.putfield 18, 3) := by decide +kernel
theorem d_BookReader_init_20 : decode c_BookReader_init 20 = .ok (.return_, 1) := by decide +kernel
abbrev c_BookReader_readBook : ByteArray := prog_3_method_2_code
def y_BookReader_readBook : MethodName := ⟨RX1, "readBook", "()I"⟩
theorem d_BookReader_readBook_0 : decode c_BookReader_readBook 0 = .ok (.aload_n 0, 1) := by decide +kernel
theorem d_BookReader_readBook_1 : decode c_BookReader_readBook 1 = .ok (.getfield 12, 3) := by decide +kernel
theorem d_BookReader_readBook_4 : decode c_BookReader_readBook 4 = .ok (.invokevirtual 22, 3) := by decide +kernel
theorem d_BookReader_readBook_7 : decode c_BookReader_readBook 7 = .ok (.iconst 0, 1) := by decide +kernel
theorem d_BookReader_readBook_8 : decode c_BookReader_readBook 8 = .ok (.istore_n 1, 1) := by decide +kernel
theorem d_BookReader_readBook_9 : decode c_BookReader_readBook 9 = .ok (.iload_n 1, 1) := by decide +kernel
theorem d_BookReader_readBook_10 : decode c_BookReader_readBook 10 = .ok (.bipush 40, 2) := by decide +kernel
theorem d_BookReader_readBook_12 : decode c_BookReader_readBook 12 = .ok (.if_icmp .gt 56, 3) := by decide +kernel
theorem d_BookReader_readBook_15 : decode c_BookReader_readBook 15 = .ok (.aload_n 0, 1) := by decide +kernel
theorem d_BookReader_readBook_16 : decode c_BookReader_readBook 16 = .ok (.iload_n 1, 1) := by decide +kernel
theorem d_BookReader_readBook_17 : decode c_BookReader_readBook 17 = .ok (.invokevirtual 25, 3) := by decide +kernel
theorem d_BookReader_readBook_20 : decode c_BookReader_readBook 20 = .ok (.aload_n 0, 1) := by decide +kernel
theorem d_BookReader_readBook_21 : decode c_BookReader_readBook 21 = .ok (.getfield 18, 3) := by decide +kernel
theorem d_BookReader_readBook_24 : decode c_BookReader_readBook 24 = .ok (.getfield 29, 3) := by decide +kernel
theorem d_BookReader_readBook_27 : decode c_BookReader_readBook 27 = .ok (.ifCond .ne 13, 3) := by decide +kernel
theorem d_BookReader_readBook_30 : decode c_BookReader_readBook 30 = .ok (.aload_n 0, 1) := by decide +kernel
theorem d_BookReader_readBook_31 : decode c_BookReader_readBook 31 = .ok (.getfield 12, 3) := by decide +kernel
theorem d_BookReader_readBook_34 : decode c_BookReader_readBook 34 = .ok (.iconst 1, 1) := by decide +kernel
theorem d_BookReader_readBook_35 : decode c_BookReader_readBook 35 = .ok (.putfield 35, 3) := by decide +kernel
theorem d_BookReader_readBook_38 : decode c_BookReader_readBook 38 = .ok (.iconst 0, 1) := by decide +kernel
theorem d_BookReader_readBook_39 : decode c_BookReader_readBook 39 = .ok (.ireturn, 1) := by decide +kernel
theorem d_BookReader_readBook_40 : decode c_BookReader_readBook 40 = .ok (.aload_n 0, 1) := by decide +kernel
theorem d_BookReader_readBook_41 : decode c_BookReader_readBook 41 = .ok (.getfield 18, 3) := by decide +kernel
theorem d_BookReader_readBook_44 : decode c_BookReader_readBook 44 = .ok (.bipush 59, 2) := by decide +kernel
theorem d_BookReader_readBook_46 : decode c_BookReader_readBook 46 = .ok (.invokevirtual 38, 3) := by decide +kernel
theorem d_BookReader_readBook_49 : decode c_BookReader_readBook 49 = .ok (.aload_n 0, 1) := by decide +kernel
theorem d_BookReader_readBook_50 : decode c_BookReader_readBook 50 = .ok (.getfield 18, 3) := by decide +kernel
theorem d_BookReader_readBook_53 : decode c_BookReader_readBook 53 = .ok (.getfield 41, 3) := by decide +kernel
theorem d_BookReader_readBook_56 : decode c_BookReader_readBook 56 = .ok (.ifCond .eq 6, 3) := by decide +kernel
theorem d_BookReader_readBook_59 : decode c_BookReader_readBook 59 = .ok (.goto 9, 3) := by decide +kernel
theorem d_BookReader_readBook_62 : decode c_BookReader_readBook 62 = .ok (.iinc 1 1, 3) := by decide +kernel
theorem d_BookReader_readBook_65 : decode c_BookReader_readBook 65 = .ok (.goto (-56), 3) := by decide +kernel
theorem d_BookReader_readBook_68 : decode c_BookReader_readBook 68 = .ok (.aload_n 0, 1) := by decide +kernel
theorem d_BookReader_readBook_69 : decode c_BookReader_readBook 69 = .ok (.getfield 18, 3) := by decide +kernel
theorem d_BookReader_readBook_72 : decode c_BookReader_readBook 72 = .ok (.getfield 41, 3) := by decide +kernel
theorem d_BookReader_readBook_75 : decode c_BookReader_readBook 75 = .ok (.ireturn, 1) := by decide +kernel
abbrev c_BookReader_readClause : ByteArray := prog_3_method_3_code
def y_BookReader_readClause : MethodName := ⟨RX1, "readClause", "(I)V"⟩
theorem d_BookReader_readClause_0 : decode c_BookReader_readClause 0 = .ok (.aload_n 0, 1) := by decide +kernel
theorem d_BookReader_readClause_1 : decode c_BookReader_readClause 1 = .ok (.getfield 18, 3) := by decide +kernel
theorem d_BookReader_readClause_4 : decode c_BookReader_readClause 4 = .ok (.bipush 12, 2) := by decide +kernel
theorem d_BookReader_readClause_6 : decode c_BookReader_readClause 6 = .ok (.invokevirtual 44, 3) := by decide +kernel
theorem d_BookReader_readClause_9 : decode c_BookReader_readClause 9 = .ok (.istore_n 2, 1) := by decide +kernel
theorem d_BookReader_readClause_10 : decode c_BookReader_readClause 10 = .ok (.aload_n 0, 1) := by decide +kernel
theorem d_BookReader_readClause_11 : decode c_BookReader_readClause 11 = .ok (.getfield 18, 3) := by decide +kernel
theorem d_BookReader_readClause_14 : decode c_BookReader_readClause 14 = .ok (.iconst 0, 1) := by decide +kernel
theorem d_BookReader_readClause_15 : decode c_BookReader_readClause 15 = .ok (.invokevirtual 44, 3) := by decide +kernel
theorem d_BookReader_readClause_18 : decode c_BookReader_readClause 18 = .ok (.istore_n 3, 1) := by decide +kernel
theorem d_BookReader_readClause_19 : decode c_BookReader_readClause 19 = .ok (.aload_n 0, 1) := by decide +kernel
theorem d_BookReader_readClause_20 : decode c_BookReader_readClause 20 = .ok (.getfield 18, 3) := by decide +kernel
theorem d_BookReader_readClause_23 : decode c_BookReader_readClause 23 = .ok (.bipush 13, 2) := by decide +kernel
theorem d_BookReader_readClause_25 : decode c_BookReader_readClause 25 = .ok (.invokevirtual 44, 3) := by decide +kernel
theorem d_BookReader_readClause_28 : decode c_BookReader_readClause 28 = .ok (.istore 4, 2) := by decide +kernel
theorem d_BookReader_readClause_30 : decode c_BookReader_readClause 30 = .ok (.aload_n 0, 1) := by decide +kernel
theorem d_BookReader_readClause_31 : decode c_BookReader_readClause 31 = .ok (.getfield 18, 3) := by decide +kernel
theorem d_BookReader_readClause_34 : decode c_BookReader_readClause 34 = .ok (.bipush 14, 2) := by decide +kernel
theorem d_BookReader_readClause_36 : decode c_BookReader_readClause 36 = .ok (.invokevirtual 44, 3) := by decide +kernel
theorem d_BookReader_readClause_39 : decode c_BookReader_readClause 39 = .ok (.istore 5, 2) := by decide +kernel
theorem d_BookReader_readClause_41 : decode c_BookReader_readClause 41 = .ok (.iload_n 2, 1) := by decide +kernel
theorem d_BookReader_readClause_42 : decode c_BookReader_readClause 42 = .ok (.ifCond .ne 28, 3) := by decide +kernel
theorem d_BookReader_readClause_45 : decode c_BookReader_readClause 45 = .ok (.iload_n 3, 1) := by decide +kernel
theorem d_BookReader_readClause_46 : decode c_BookReader_readClause 46 = .ok (.ifCond .ne 24, 3) := by decide +kernel
theorem d_BookReader_readClause_49 : decode c_BookReader_readClause 49 = .ok (.iload 4, 2) := by decide +kernel
theorem d_BookReader_readClause_51 : decode c_BookReader_readClause 51 = .ok (.ifCond .ne 19, 3) := by decide +kernel
theorem d_BookReader_readClause_54 : decode c_BookReader_readClause 54 = .ok (.iload 5, 2) := by decide +kernel
theorem d_BookReader_readClause_56 : decode c_BookReader_readClause 56 = .ok (.ifCond .ne 14, 3) := by decide +kernel
theorem d_BookReader_readClause_59 : decode c_BookReader_readClause 59 = .ok (.aload_n 0, 1) := by decide +kernel
theorem d_BookReader_readClause_60 : decode c_BookReader_readClause 60 = .ok (.getfield 18, 3) := by decide +kernel
theorem d_BookReader_readClause_63 : decode c_BookReader_readClause 63 = .ok (.iconst 0, 1) := by decide +kernel
theorem d_BookReader_readClause_64 : decode c_BookReader_readClause 64 = .ok (.invokevirtual 48, 3) := by decide +kernel
theorem d_BookReader_readClause_67 : decode c_BookReader_readClause 67 = .ok (.goto 101, 3) := by decide +kernel
theorem d_BookReader_readClause_70 : decode c_BookReader_readClause 70 = .ok (.iload_n 1, 1) := by decide +kernel
theorem d_BookReader_readClause_71 : decode c_BookReader_readClause 71 = .ok (.bipush 40, 2) := by decide +kernel
theorem d_BookReader_readClause_73 : decode c_BookReader_readClause 73 = .ok (.if_icmp .ge 49, 3) := by decide +kernel
theorem d_BookReader_readClause_76 : decode c_BookReader_readClause 76 = .ok (.iload_n 2, 1) := by decide +kernel
theorem d_BookReader_readClause_77 : decode c_BookReader_readClause 77 = .ok (.iload_n 1, 1) := by decide +kernel
theorem d_BookReader_readClause_78 : decode c_BookReader_readClause 78 = .ok (.ifCond .ne 7, 3) := by decide +kernel
theorem d_BookReader_readClause_81 : decode c_BookReader_readClause 81 = .ok (.iconst 1, 1) := by decide +kernel
theorem d_BookReader_readClause_82 : decode c_BookReader_readClause 82 = .ok (.goto 4, 3) := by decide +kernel
theorem d_BookReader_readClause_85 : decode c_BookReader_readClause 85 = .ok (.iconst 0, 1) := by decide +kernel
theorem d_BookReader_readClause_86 : decode c_BookReader_readClause 86 = .ok (.if_icmp .ne 36, 3) := by decide +kernel
theorem d_BookReader_readClause_89 : decode c_BookReader_readClause 89 = .ok (.iload_n 3, 1) := by decide +kernel
theorem d_BookReader_readClause_90 : decode c_BookReader_readClause 90 = .ok (.ifCond .eq 15, 3) := by decide +kernel
theorem d_BookReader_readClause_93 : decode c_BookReader_readClause 93 = .ok (.aload_n 0, 1) := by decide +kernel
theorem d_BookReader_readClause_94 : decode c_BookReader_readClause 94 = .ok (.getfield 12, 3) := by decide +kernel
theorem d_BookReader_readClause_97 : decode c_BookReader_readClause 97 = .ok (.getfield 51, 3) := by decide +kernel
theorem d_BookReader_readClause_100 : decode c_BookReader_readClause 100 = .ok (.bipush 10, 2) := by decide +kernel
theorem d_BookReader_readClause_102 : decode c_BookReader_readClause 102 = .ok (.if_icmp .ge 20, 3) := by decide +kernel
theorem d_BookReader_readClause_105 : decode c_BookReader_readClause 105 = .ok (.iload 4, 2) := by decide +kernel
theorem d_BookReader_readClause_107 : decode c_BookReader_readClause 107 = .ok (.ifCond .eq 26, 3) := by decide +kernel
theorem d_BookReader_readClause_110 : decode c_BookReader_readClause 110 = .ok (.aload_n 0, 1) := by decide +kernel
theorem d_BookReader_readClause_111 : decode c_BookReader_readClause 111 = .ok (.getfield 12, 3) := by decide +kernel
theorem d_BookReader_readClause_114 : decode c_BookReader_readClause 114 = .ok (.getfield 54, 3) := by decide +kernel
theorem d_BookReader_readClause_117 : decode c_BookReader_readClause 117 = .ok (.bipush 12, 2) := by decide +kernel
theorem d_BookReader_readClause_119 : decode c_BookReader_readClause 119 = .ok (.if_icmp .lt 14, 3) := by decide +kernel
theorem d_BookReader_readClause_122 : decode c_BookReader_readClause 122 = .ok (.aload_n 0, 1) := by decide +kernel
theorem d_BookReader_readClause_123 : decode c_BookReader_readClause 123 = .ok (.getfield 18, 3) := by decide +kernel
theorem d_BookReader_readClause_126 : decode c_BookReader_readClause 126 = .ok (.iconst 4, 1) := by decide +kernel
theorem d_BookReader_readClause_127 : decode c_BookReader_readClause 127 = .ok (.invokevirtual 48, 3) := by decide +kernel
theorem d_BookReader_readClause_130 : decode c_BookReader_readClause 130 = .ok (.goto 38, 3) := by decide +kernel
theorem d_BookReader_readClause_133 : decode c_BookReader_readClause 133 = .ok (.aload_n 0, 1) := by decide +kernel
theorem d_BookReader_readClause_134 : decode c_BookReader_readClause 134 = .ok (.getfield 18, 3) := by decide +kernel
theorem d_BookReader_readClause_137 : decode c_BookReader_readClause 137 = .ok (.invokevirtual 57, 3) := by decide +kernel
theorem d_BookReader_readClause_140 : decode c_BookReader_readClause 140 = .ok (.iload_n 2, 1) := by decide +kernel
theorem d_BookReader_readClause_141 : decode c_BookReader_readClause 141 = .ok (.ifCond .eq 10, 3) := by decide +kernel
theorem d_BookReader_readClause_144 : decode c_BookReader_readClause 144 = .ok (.aload_n 0, 1) := by decide +kernel
theorem d_BookReader_readClause_145 : decode c_BookReader_readClause 145 = .ok (.invokevirtual 60, 3) := by decide +kernel
theorem d_BookReader_readClause_148 : decode c_BookReader_readClause 148 = .ok (.goto 20, 3) := by decide +kernel
theorem d_BookReader_readClause_151 : decode c_BookReader_readClause 151 = .ok (.iload 5, 2) := by decide +kernel
theorem d_BookReader_readClause_153 : decode c_BookReader_readClause 153 = .ok (.ifCond .eq 10, 3) := by decide +kernel
theorem d_BookReader_readClause_156 : decode c_BookReader_readClause 156 = .ok (.aload_n 0, 1) := by decide +kernel
theorem d_BookReader_readClause_157 : decode c_BookReader_readClause 157 = .ok (.invokevirtual 63, 3) := by decide +kernel
theorem d_BookReader_readClause_160 : decode c_BookReader_readClause 160 = .ok (.goto 8, 3) := by decide +kernel
theorem d_BookReader_readClause_163 : decode c_BookReader_readClause 163 = .ok (.aload_n 0, 1) := by decide +kernel
theorem d_BookReader_readClause_164 : decode c_BookReader_readClause 164 = .ok (.iload_n 3, 1) := by decide +kernel
theorem d_BookReader_readClause_165 : decode c_BookReader_readClause 165 = .ok (.invokevirtual 66, 3) := by decide +kernel
theorem d_BookReader_readClause_168 : decode c_BookReader_readClause 168 = .ok (.return_, 1) := by decide +kernel
abbrev c_BookReader_readPay : ByteArray := prog_3_method_4_code
def y_BookReader_readPay : MethodName := ⟨RX1, "readPay", "()V"⟩
theorem d_BookReader_readPay_0 : decode c_BookReader_readPay 0 = .ok (.aload_n 0, 1) := by decide +kernel
theorem d_BookReader_readPay_1 : decode c_BookReader_readPay 1 = .ok (.getfield 12, 3) := by decide +kernel
theorem d_BookReader_readPay_4 : decode c_BookReader_readPay 4 = .ok (.aload_n 0, 1) := by decide +kernel
theorem d_BookReader_readPay_5 : decode c_BookReader_readPay 5 = .ok (.iconst 1, 1) := by decide +kernel
theorem d_BookReader_readPay_6 : decode c_BookReader_readPay 6 = .ok (.bipush 9, 2) := by decide +kernel
theorem d_BookReader_readPay_8 : decode c_BookReader_readPay 8 = .ok (.iconst (-1), 1) := by decide +kernel
theorem d_BookReader_readPay_9 : decode c_BookReader_readPay 9 = .ok (.invokevirtual 70, 3) := by decide +kernel
theorem d_BookReader_readPay_12 : decode c_BookReader_readPay 12 = .ok (.putfield 74, 3) := by decide +kernel
theorem d_BookReader_readPay_15 : decode c_BookReader_readPay 15 = .ok (.aload_n 0, 1) := by decide +kernel
theorem d_BookReader_readPay_16 : decode c_BookReader_readPay 16 = .ok (.getfield 12, 3) := by decide +kernel
theorem d_BookReader_readPay_19 : decode c_BookReader_readPay 19 = .ok (.getfield 77, 3) := by decide +kernel
theorem d_BookReader_readPay_22 : decode c_BookReader_readPay 22 = .ok (.aload_n 0, 1) := by decide +kernel
theorem d_BookReader_readPay_23 : decode c_BookReader_readPay 23 = .ok (.iconst 0, 1) := by decide +kernel
theorem d_BookReader_readPay_24 : decode c_BookReader_readPay 24 = .ok (.sipush 999, 3) := by decide +kernel
theorem d_BookReader_readPay_27 : decode c_BookReader_readPay 27 = .ok (.iconst (-1), 1) := by decide +kernel
theorem d_BookReader_readPay_28 : decode c_BookReader_readPay 28 = .ok (.invokevirtual 70, 3) := by decide +kernel
theorem d_BookReader_readPay_31 : decode c_BookReader_readPay 31 = .ok (.putfield 81, 3) := by decide +kernel
theorem d_BookReader_readPay_34 : decode c_BookReader_readPay 34 = .ok (.return_, 1) := by decide +kernel
abbrev c_BookReader_readPuts : ByteArray := prog_3_method_5_code
def y_BookReader_readPuts : MethodName := ⟨RX1, "readPuts", "(Z)V"⟩
theorem d_BookReader_readPuts_0 : decode c_BookReader_readPuts 0 = .ok (.aload_n 0, 1) := by decide +kernel
theorem d_BookReader_readPuts_1 : decode c_BookReader_readPuts 1 = .ok (.iconst 0, 1) := by decide +kernel
theorem d_BookReader_readPuts_2 : decode c_BookReader_readPuts 2 = .ok (.bipush 7, 2) := by decide +kernel
theorem d_BookReader_readPuts_4 : decode c_BookReader_readPuts 4 = .ok (.iconst (-1), 1) := by decide +kernel
theorem d_BookReader_readPuts_5 : decode c_BookReader_readPuts 5 = .ok (.invokevirtual 70, 3) := by decide +kernel
theorem d_BookReader_readPuts_8 : decode c_BookReader_readPuts 8 = .ok (.istore_n 2, 1) := by decide +kernel
theorem d_BookReader_readPuts_9 : decode c_BookReader_readPuts 9 = .ok (.aload_n 0, 1) := by decide +kernel
theorem d_BookReader_readPuts_10 : decode c_BookReader_readPuts 10 = .ok (.iconst 0, 1) := by decide +kernel
theorem d_BookReader_readPuts_11 : decode c_BookReader_readPuts 11 = .ok (.bipush 7, 2) := by decide +kernel
theorem d_BookReader_readPuts_13 : decode c_BookReader_readPuts 13 = .ok (.iconst (-1), 1) := by decide +kernel
theorem d_BookReader_readPuts_14 : decode c_BookReader_readPuts 14 = .ok (.invokevirtual 70, 3) := by decide +kernel
theorem d_BookReader_readPuts_17 : decode c_BookReader_readPuts 17 = .ok (.istore_n 3, 1) := by decide +kernel
theorem d_BookReader_readPuts_18 : decode c_BookReader_readPuts 18 = .ok (.iload_n 1, 1) := by decide +kernel
theorem d_BookReader_readPuts_19 : decode c_BookReader_readPuts 19 = .ok (.ifCond .eq 15, 3) := by decide +kernel
theorem d_BookReader_readPuts_22 : decode c_BookReader_readPuts 22 = .ok (.aload_n 0, 1) := by decide +kernel
theorem d_BookReader_readPuts_23 : decode c_BookReader_readPuts 23 = .ok (.getfield 12, 3) := by decide +kernel
theorem d_BookReader_readPuts_26 : decode c_BookReader_readPuts 26 = .ok (.iload_n 2, 1) := by decide +kernel
theorem d_BookReader_readPuts_27 : decode c_BookReader_readPuts 27 = .ok (.iload_n 3, 1) := by decide +kernel
theorem d_BookReader_readPuts_28 : decode c_BookReader_readPuts 28 = .ok (.invokevirtual 86, 3) := by decide +kernel
theorem d_BookReader_readPuts_31 : decode c_BookReader_readPuts 31 = .ok (.goto 12, 3) := by decide +kernel
theorem d_BookReader_readPuts_34 : decode c_BookReader_readPuts 34 = .ok (.aload_n 0, 1) := by decide +kernel
theorem d_BookReader_readPuts_35 : decode c_BookReader_readPuts 35 = .ok (.getfield 12, 3) := by decide +kernel
theorem d_BookReader_readPuts_38 : decode c_BookReader_readPuts 38 = .ok (.iload_n 2, 1) := by decide +kernel
theorem d_BookReader_readPuts_39 : decode c_BookReader_readPuts 39 = .ok (.iload_n 3, 1) := by decide +kernel
theorem d_BookReader_readPuts_40 : decode c_BookReader_readPuts 40 = .ok (.invokevirtual 90, 3) := by decide +kernel
theorem d_BookReader_readPuts_43 : decode c_BookReader_readPuts 43 = .ok (.return_, 1) := by decide +kernel
abbrev c_BookReader_readHangs : ByteArray := prog_3_method_6_code
def y_BookReader_readHangs : MethodName := ⟨RX1, "readHangs", "()V"⟩
theorem d_BookReader_readHangs_0 : decode c_BookReader_readHangs 0 = .ok (.aload_n 0, 1) := by decide +kernel
theorem d_BookReader_readHangs_1 : decode c_BookReader_readHangs 1 = .ok (.iconst 0, 1) := by decide +kernel
theorem d_BookReader_readHangs_2 : decode c_BookReader_readHangs 2 = .ok (.aload_n 0, 1) := by decide +kernel
theorem d_BookReader_readHangs_3 : decode c_BookReader_readHangs 3 = .ok (.getfield 12, 3) := by decide +kernel
theorem d_BookReader_readHangs_6 : decode c_BookReader_readHangs 6 = .ok (.getfield 51, 3) := by decide +kernel
theorem d_BookReader_readHangs_9 : decode c_BookReader_readHangs 9 = .ok (.iconst 1, 1) := by decide +kernel
theorem d_BookReader_readHangs_10 : decode c_BookReader_readHangs 10 = .ok (.isub, 1) := by decide +kernel
theorem d_BookReader_readHangs_11 : decode c_BookReader_readHangs 11 = .ok (.iconst (-1), 1) := by decide +kernel
theorem d_BookReader_readHangs_12 : decode c_BookReader_readHangs 12 = .ok (.invokevirtual 70, 3) := by decide +kernel
theorem d_BookReader_readHangs_15 : decode c_BookReader_readHangs 15 = .ok (.istore_n 1, 1) := by decide +kernel
theorem d_BookReader_readHangs_16 : decode c_BookReader_readHangs 16 = .ok (.aload_n 0, 1) := by decide +kernel
theorem d_BookReader_readHangs_17 : decode c_BookReader_readHangs 17 = .ok (.iconst 0, 1) := by decide +kernel
theorem d_BookReader_readHangs_18 : decode c_BookReader_readHangs 18 = .ok (.aload_n 0, 1) := by decide +kernel
theorem d_BookReader_readHangs_19 : decode c_BookReader_readHangs 19 = .ok (.getfield 12, 3) := by decide +kernel
theorem d_BookReader_readHangs_22 : decode c_BookReader_readHangs 22 = .ok (.getfield 51, 3) := by decide +kernel
theorem d_BookReader_readHangs_25 : decode c_BookReader_readHangs 25 = .ok (.iconst 1, 1) := by decide +kernel
theorem d_BookReader_readHangs_26 : decode c_BookReader_readHangs 26 = .ok (.isub, 1) := by decide +kernel
theorem d_BookReader_readHangs_27 : decode c_BookReader_readHangs 27 = .ok (.iload_n 1, 1) := by decide +kernel
theorem d_BookReader_readHangs_28 : decode c_BookReader_readHangs 28 = .ok (.invokevirtual 70, 3) := by decide +kernel
theorem d_BookReader_readHangs_31 : decode c_BookReader_readHangs 31 = .ok (.istore_n 2, 1) := by decide +kernel
theorem d_BookReader_readHangs_32 : decode c_BookReader_readHangs 32 = .ok (.iload_n 1, 1) := by decide +kernel
theorem d_BookReader_readHangs_33 : decode c_BookReader_readHangs 33 = .ok (.ifCond .lt 25, 3) := by decide +kernel
theorem d_BookReader_readHangs_36 : decode c_BookReader_readHangs 36 = .ok (.iload_n 2, 1) := by decide +kernel
theorem d_BookReader_readHangs_37 : decode c_BookReader_readHangs 37 = .ok (.ifCond .lt 21, 3) := by decide +kernel
theorem d_BookReader_readHangs_40 : decode c_BookReader_readHangs 40 = .ok (.aload_n 0, 1) := by decide +kernel
theorem d_BookReader_readHangs_41 : decode c_BookReader_readHangs 41 = .ok (.getfield 12, 3) := by decide +kernel
theorem d_BookReader_readHangs_44 : decode c_BookReader_readHangs 44 = .ok (.getfield 77, 3) := by decide +kernel
theorem d_BookReader_readHangs_47 : decode c_BookReader_readHangs 47 = .ok (.getfield 93, 3) := by decide +kernel
theorem d_BookReader_readHangs_50 : decode c_BookReader_readHangs 50 = .ok (.iload_n 1, 1) := by decide +kernel
theorem d_BookReader_readHangs_51 : decode c_BookReader_readHangs 51 = .ok (.dup2, 1) := by decide +kernel
theorem d_BookReader_readHangs_52 : decode c_BookReader_readHangs 52 = .ok (.iaload, 1) := by decide +kernel
theorem d_BookReader_readHangs_53 : decode c_BookReader_readHangs 53 = .ok (.iconst 1, 1) := by decide +kernel
theorem d_BookReader_readHangs_54 : decode c_BookReader_readHangs 54 = .ok (.iload_n 2, 1) := by decide +kernel
theorem d_BookReader_readHangs_55 : decode c_BookReader_readHangs 55 = .ok (.ishl, 1) := by decide +kernel
theorem d_BookReader_readHangs_56 : decode c_BookReader_readHangs 56 = .ok (.ior, 1) := by decide +kernel
theorem d_BookReader_readHangs_57 : decode c_BookReader_readHangs 57 = .ok (.iastore, 1) := by decide +kernel
theorem d_BookReader_readHangs_58 : decode c_BookReader_readHangs 58 = .ok (.return_, 1) := by decide +kernel
abbrev c_BookReader_readNumber : ByteArray := prog_3_method_7_code
def y_BookReader_readNumber : MethodName := ⟨RX1, "readNumber", "(III)I"⟩
theorem d_BookReader_readNumber_0 : decode c_BookReader_readNumber 0 = .ok (.aload_n 0, 1) := by decide +kernel
theorem d_BookReader_readNumber_1 : decode c_BookReader_readNumber 1 = .ok (.getfield 18, 3) := by decide +kernel
theorem d_BookReader_readNumber_4 : decode c_BookReader_readNumber 4 = .ok (.getfield 97, 3) := by decide +kernel
theorem d_BookReader_readNumber_7 : decode c_BookReader_readNumber 7 = .ok (.istore 4, 2) := by decide +kernel
theorem d_BookReader_readNumber_9 : decode c_BookReader_readNumber 9 = .ok (.aload_n 0, 1) := by decide +kernel
theorem d_BookReader_readNumber_10 : decode c_BookReader_readNumber 10 = .ok (.getfield 18, 3) := by decide +kernel
theorem d_BookReader_readNumber_13 : decode c_BookReader_readNumber 13 = .ok (.getfield 29, 3) := by decide +kernel
theorem d_BookReader_readNumber_16 : decode c_BookReader_readNumber 16 = .ok (.iconst 2, 1) := by decide +kernel
theorem d_BookReader_readNumber_17 : decode c_BookReader_readNumber 17 = .ok (.if_icmp .ne 14, 3) := by decide +kernel
theorem d_BookReader_readNumber_20 : decode c_BookReader_readNumber 20 = .ok (.aload_n 0, 1) := by decide +kernel
theorem d_BookReader_readNumber_21 : decode c_BookReader_readNumber 21 = .ok (.getfield 18, 3) := by decide +kernel
theorem d_BookReader_readNumber_24 : decode c_BookReader_readNumber 24 = .ok (.iconst 1, 1) := by decide +kernel
theorem d_BookReader_readNumber_25 : decode c_BookReader_readNumber 25 = .ok (.invokevirtual 48, 3) := by decide +kernel
theorem d_BookReader_readNumber_28 : decode c_BookReader_readNumber 28 = .ok (.goto 64, 3) := by decide +kernel
theorem d_BookReader_readNumber_31 : decode c_BookReader_readNumber 31 = .ok (.aload_n 0, 1) := by decide +kernel
theorem d_BookReader_readNumber_32 : decode c_BookReader_readNumber 32 = .ok (.getfield 18, 3) := by decide +kernel
theorem d_BookReader_readNumber_35 : decode c_BookReader_readNumber 35 = .ok (.getfield 29, 3) := by decide +kernel
theorem d_BookReader_readNumber_38 : decode c_BookReader_readNumber 38 = .ok (.iconst 1, 1) := by decide +kernel
theorem d_BookReader_readNumber_39 : decode c_BookReader_readNumber 39 = .ok (.if_icmp .eq 14, 3) := by decide +kernel
theorem d_BookReader_readNumber_42 : decode c_BookReader_readNumber 42 = .ok (.aload_n 0, 1) := by decide +kernel
theorem d_BookReader_readNumber_43 : decode c_BookReader_readNumber 43 = .ok (.getfield 18, 3) := by decide +kernel
theorem d_BookReader_readNumber_46 : decode c_BookReader_readNumber 46 = .ok (.iconst 0, 1) := by decide +kernel
theorem d_BookReader_readNumber_47 : decode c_BookReader_readNumber 47 = .ok (.invokevirtual 48, 3) := by decide +kernel
theorem d_BookReader_readNumber_50 : decode c_BookReader_readNumber 50 = .ok (.goto 42, 3) := by decide +kernel
theorem d_BookReader_readNumber_53 : decode c_BookReader_readNumber 53 = .ok (.iload 4, 2) := by decide +kernel
theorem d_BookReader_readNumber_55 : decode c_BookReader_readNumber 55 = .ok (.iload_n 1, 1) := by decide +kernel
theorem d_BookReader_readNumber_56 : decode c_BookReader_readNumber 56 = .ok (.if_icmp .lt 15, 3) := by decide +kernel
theorem d_BookReader_readNumber_59 : decode c_BookReader_readNumber 59 = .ok (.iload 4, 2) := by decide +kernel
theorem d_BookReader_readNumber_61 : decode c_BookReader_readNumber 61 = .ok (.iload_n 2, 1) := by decide +kernel
theorem d_BookReader_readNumber_62 : decode c_BookReader_readNumber 62 = .ok (.if_icmp .gt 9, 3) := by decide +kernel
theorem d_BookReader_readNumber_65 : decode c_BookReader_readNumber 65 = .ok (.iload 4, 2) := by decide +kernel
theorem d_BookReader_readNumber_67 : decode c_BookReader_readNumber 67 = .ok (.iload_n 3, 1) := by decide +kernel
theorem d_BookReader_readNumber_68 : decode c_BookReader_readNumber 68 = .ok (.if_icmp .ne 14, 3) := by decide +kernel
theorem d_BookReader_readNumber_71 : decode c_BookReader_readNumber 71 = .ok (.aload_n 0, 1) := by decide +kernel
theorem d_BookReader_readNumber_72 : decode c_BookReader_readNumber 72 = .ok (.getfield 18, 3) := by decide +kernel
theorem d_BookReader_readNumber_75 : decode c_BookReader_readNumber 75 = .ok (.iconst 1, 1) := by decide +kernel
theorem d_BookReader_readNumber_76 : decode c_BookReader_readNumber 76 = .ok (.invokevirtual 48, 3) := by decide +kernel
theorem d_BookReader_readNumber_79 : decode c_BookReader_readNumber 79 = .ok (.goto 13, 3) := by decide +kernel
theorem d_BookReader_readNumber_82 : decode c_BookReader_readNumber 82 = .ok (.aload_n 0, 1) := by decide +kernel
theorem d_BookReader_readNumber_83 : decode c_BookReader_readNumber 83 = .ok (.getfield 18, 3) := by decide +kernel
theorem d_BookReader_readNumber_86 : decode c_BookReader_readNumber 86 = .ok (.invokevirtual 57, 3) := by decide +kernel
theorem d_BookReader_readNumber_89 : decode c_BookReader_readNumber 89 = .ok (.iload 4, 2) := by decide +kernel
theorem d_BookReader_readNumber_91 : decode c_BookReader_readNumber 91 = .ok (.ireturn, 1) := by decide +kernel
theorem d_BookReader_readNumber_92 : decode c_BookReader_readNumber 92 = .ok (.iconst (-1), 1) := by decide +kernel
theorem d_BookReader_readNumber_93 : decode c_BookReader_readNumber 93 = .ok (.ireturn, 1) := by decide +kernel
abbrev c_History_init : ByteArray := prog_4_method_1_code
def y_History_init : MethodName := ⟨RX2, "<init>", "()V"⟩
theorem d_History_init_0 : decode c_History_init 0 = .ok (.aload_n 0, 1) := by decide +kernel
theorem d_History_init_1 : decode c_History_init 1 = .ok (.invokespecial 3, 3) := by decide +kernel
theorem d_History_init_4 : decode c_History_init 4 = .ok (.aload_n 0, 1) := by decide +kernel
theorem d_History_init_5 : decode c_History_init 5 = .ok (.bipush 20, 2) := by decide +kernel
theorem d_History_init_7 : decode c_History_init 7 = .ok (.anewarray 9, 3) := by decide +kernel
theorem d_History_init_10 : decode c_History_init 10 = .ok (.putfield 11, 3) := by decide +kernel
theorem d_History_init_13 : decode c_History_init 13 = .ok (.return_, 1) := by decide +kernel
abbrev c_History_keep : ByteArray := prog_4_method_2_code
def y_History_keep : MethodName := ⟨RX2, "keep", "(LErrataRow$State;)V"⟩
theorem d_History_keep_0 : decode c_History_keep 0 = .ok (.aload_n 0, 1) := by decide +kernel
theorem d_History_keep_1 : decode c_History_keep 1 = .ok (.getfield 11, 3) := by decide +kernel
theorem d_History_keep_4 : decode c_History_keep 4 = .ok (.aload_n 0, 1) := by decide +kernel
theorem d_History_keep_5 : decode c_History_keep 5 = .ok (.getfield 17, 3) := by decide +kernel
theorem d_History_keep_8 : decode c_History_keep 8 = .ok (.aaload, 1) := by decide +kernel
theorem d_History_keep_9 : decode c_History_keep 9 = .ok (.astore_n 2, 1) := by decide +kernel
theorem d_History_keep_10 : decode c_History_keep 10 = .ok (.aload_n 2, 1) := by decide +kernel
theorem d_History_keep_11 : decode c_History_keep 11 = .ok (.ifnonnull 21, 3) := by decide +kernel
theorem d_History_keep_14 : decode c_History_keep 14 = .ok (.new 9, 3) := by decide +kernel
theorem d_History_keep_17 : decode c_History_keep 17 = .ok (.dup, 1) := by decide +kernel
theorem d_History_keep_18 : decode c_History_keep 18 = .ok (.invokespecial 21, 3) := by decide +kernel
theorem d_History_keep_21 : decode c_History_keep 21 = .ok (.astore_n 2, 1) := by decide +kernel
theorem d_History_keep_22 : decode c_History_keep 22 = .ok (.aload_n 0, 1) := by decide +kernel
theorem d_History_keep_23 : decode c_History_keep 23 = .ok (.getfield 11, 3) := by decide +kernel
theorem d_History_keep_26 : decode c_History_keep 26 = .ok (.aload_n 0, 1) := by decide +kernel
theorem d_History_keep_27 : decode c_History_keep 27 = .ok (.getfield 17, 3) := by decide +kernel
theorem d_History_keep_30 : decode c_History_keep 30 = .ok (.aload_n 2, 1) := by decide +kernel
theorem d_History_keep_31 : decode c_History_keep 31 = .ok (.aastore, 1) := by decide +kernel
theorem d_History_keep_32 : decode c_History_keep 32 = .ok (.aload_n 2, 1) := by decide +kernel
theorem d_History_keep_33 : decode c_History_keep 33 = .ok (.aload_n 1, 1) := by decide +kernel
theorem d_History_keep_34 : decode c_History_keep 34 = .ok (.invokevirtual 22, 3) := by decide +kernel
theorem d_History_keep_37 : decode c_History_keep 37 = .ok (.aload_n 0, 1) := by decide +kernel
theorem d_History_keep_38 : decode c_History_keep 38 = .ok (.aload_n 0, 1) := by decide +kernel
theorem d_History_keep_39 : decode c_History_keep 39 = .ok (.getfield 17, 3) := by decide +kernel
theorem d_History_keep_42 : decode c_History_keep 42 = .ok (.iconst 1, 1) := by decide +kernel
theorem d_History_keep_43 : decode c_History_keep 43 = .ok (.iadd, 1) := by decide +kernel
theorem d_History_keep_44 : decode c_History_keep 44 = .ok (.bipush 20, 2) := by decide +kernel
theorem d_History_keep_46 : decode c_History_keep 46 = .ok (.irem, 1) := by decide +kernel
theorem d_History_keep_47 : decode c_History_keep 47 = .ok (.putfield 17, 3) := by decide +kernel
theorem d_History_keep_50 : decode c_History_keep 50 = .ok (.aload_n 0, 1) := by decide +kernel
theorem d_History_keep_51 : decode c_History_keep 51 = .ok (.aload_n 0, 1) := by decide +kernel
theorem d_History_keep_52 : decode c_History_keep 52 = .ok (.getfield 26, 3) := by decide +kernel
theorem d_History_keep_55 : decode c_History_keep 55 = .ok (.iconst 1, 1) := by decide +kernel
theorem d_History_keep_56 : decode c_History_keep 56 = .ok (.iadd, 1) := by decide +kernel
theorem d_History_keep_57 : decode c_History_keep 57 = .ok (.bipush 20, 2) := by decide +kernel
theorem d_History_keep_59 : decode c_History_keep 59 = .ok (.invokestatic 29, 3) := by decide +kernel
theorem d_History_keep_62 : decode c_History_keep 62 = .ok (.putfield 26, 3) := by decide +kernel
theorem d_History_keep_65 : decode c_History_keep 65 = .ok (.return_, 1) := by decide +kernel
abbrev c_History_takeBack : ByteArray := prog_4_method_3_code
def y_History_takeBack : MethodName := ⟨RX2, "takeBack", "(LErrataRow$State;)Z"⟩
theorem d_History_takeBack_0 : decode c_History_takeBack 0 = .ok (.aload_n 0, 1) := by decide +kernel
theorem d_History_takeBack_1 : decode c_History_takeBack 1 = .ok (.getfield 26, 3) := by decide +kernel
theorem d_History_takeBack_4 : decode c_History_takeBack 4 = .ok (.ifCond .ne 5, 3) := by decide +kernel
theorem d_History_takeBack_7 : decode c_History_takeBack 7 = .ok (.iconst 0, 1) := by decide +kernel
theorem d_History_takeBack_8 : decode c_History_takeBack 8 = .ok (.ireturn, 1) := by decide +kernel
theorem d_History_takeBack_9 : decode c_History_takeBack 9 = .ok (.aload_n 0, 1) := by decide +kernel
theorem d_History_takeBack_10 : decode c_History_takeBack 10 = .ok (.aload_n 0, 1) := by decide +kernel
theorem d_History_takeBack_11 : decode c_History_takeBack 11 = .ok (.getfield 17, 3) := by decide +kernel
theorem d_History_takeBack_14 : decode c_History_takeBack 14 = .ok (.bipush 20, 2) := by decide +kernel
theorem d_History_takeBack_16 : decode c_History_takeBack 16 = .ok (.iadd, 1) := by decide +kernel
theorem d_History_takeBack_17 : decode c_History_takeBack 17 = .ok (.iconst 1, 1) := by decide +kernel
theorem d_History_takeBack_18 : decode c_History_takeBack 18 = .ok (.isub, 1) := by decide +kernel
theorem d_History_takeBack_19 : decode c_History_takeBack 19 = .ok (.bipush 20, 2) := by decide +kernel
theorem d_History_takeBack_21 : decode c_History_takeBack 21 = .ok (.irem, 1) := by decide +kernel
theorem d_History_takeBack_22 : decode c_History_takeBack 22 = .ok (.putfield 17, 3) := by decide +kernel
theorem d_History_takeBack_25 : decode c_History_takeBack 25 = .ok (.aload_n 0, 1) := by decide +kernel
theorem d_History_takeBack_26 : decode c_History_takeBack 26 = .ok (.dup, 1) := by decide +kernel
theorem d_History_takeBack_27 : decode c_History_takeBack 27 = .ok (.getfield 26, 3) := by decide +kernel
theorem d_History_takeBack_30 : decode c_History_takeBack 30 = .ok (.iconst 1, 1) := by decide +kernel
theorem d_History_takeBack_31 : decode c_History_takeBack 31 = .ok (.isub, 1) := by decide +kernel
theorem d_History_takeBack_32 : decode c_History_takeBack 32 = .ok (.putfield 26, 3) := by decide +kernel
theorem d_History_takeBack_35 : decode c_History_takeBack 35 = .ok (.aload_n 0, 1) := by decide +kernel
theorem d_History_takeBack_36 : decode c_History_takeBack 36 = .ok (.getfield 11, 3) := by decide +kernel
theorem d_History_takeBack_39 : decode c_History_takeBack 39 = .ok (.aload_n 0, 1) := by decide +kernel
theorem d_History_takeBack_40 : decode c_History_takeBack 40 = .ok (.getfield 17, 3) := by decide +kernel
theorem d_History_takeBack_43 : decode c_History_takeBack 43 = .ok (.aaload, 1) := by decide +kernel
theorem d_History_takeBack_44 : decode c_History_takeBack 44 = .ok (.astore_n 2, 1) := by decide +kernel
theorem d_History_takeBack_45 : decode c_History_takeBack 45 = .ok (.aload_n 2, 1) := by decide +kernel
theorem d_History_takeBack_46 : decode c_History_takeBack 46 = .ok (.ifnull 8, 3) := by decide +kernel
theorem d_History_takeBack_49 : decode c_History_takeBack 49 = .ok (.aload_n 1, 1) := by decide +kernel
theorem d_History_takeBack_50 : decode c_History_takeBack 50 = .ok (.aload_n 2, 1) := by decide +kernel
theorem d_History_takeBack_51 : decode c_History_takeBack 51 = .ok (.invokevirtual 22, 3) := by decide +kernel
theorem d_History_takeBack_54 : decode c_History_takeBack 54 = .ok (.iconst 1, 1) := by decide +kernel
theorem d_History_takeBack_55 : decode c_History_takeBack 55 = .ok (.ireturn, 1) := by decide +kernel
abbrev c_History_forget : ByteArray := prog_4_method_4_code
def y_History_forget : MethodName := ⟨RX2, "forget", "()V"⟩
theorem d_History_forget_0 : decode c_History_forget 0 = .ok (.aload_n 0, 1) := by decide +kernel
theorem d_History_forget_1 : decode c_History_forget 1 = .ok (.iconst 0, 1) := by decide +kernel
theorem d_History_forget_2 : decode c_History_forget 2 = .ok (.putfield 26, 3) := by decide +kernel
theorem d_History_forget_5 : decode c_History_forget 5 = .ok (.return_, 1) := by decide +kernel
abbrev c_Notes_init : ByteArray := prog_5_method_1_code
def y_Notes_init : MethodName := ⟨RX3, "<init>", "()V"⟩
theorem d_Notes_init_0 : decode c_Notes_init 0 = .ok (.aload_n 0, 1) := by decide +kernel
theorem d_Notes_init_1 : decode c_Notes_init 1 = .ok (.invokespecial 3, 3) := by decide +kernel
theorem d_Notes_init_4 : decode c_Notes_init 4 = .ok (.aload_n 0, 1) := by decide +kernel
theorem d_Notes_init_5 : decode c_Notes_init 5 = .ok (.bipush 10, 2) := by decide +kernel
theorem d_Notes_init_7 : decode c_Notes_init 7 = .ok (.newarray .int, 2) := by decide +kernel
theorem d_Notes_init_9 : decode c_Notes_init 9 = .ok (.putfield 9, 3) := by decide +kernel
theorem d_Notes_init_12 : decode c_Notes_init 12 = .ok (.aload_n 0, 1) := by decide +kernel
theorem d_Notes_init_13 : decode c_Notes_init 13 = .ok (.bipush 10, 2) := by decide +kernel
theorem d_Notes_init_15 : decode c_Notes_init 15 = .ok (.newarray .int, 2) := by decide +kernel
theorem d_Notes_init_17 : decode c_Notes_init 17 = .ok (.putfield 15, 3) := by decide +kernel
theorem d_Notes_init_20 : decode c_Notes_init 20 = .ok (.aload_n 0, 1) := by decide +kernel
theorem d_Notes_init_21 : decode c_Notes_init 21 = .ok (.bipush 10, 2) := by decide +kernel
theorem d_Notes_init_23 : decode c_Notes_init 23 = .ok (.newarray .int, 2) := by decide +kernel
theorem d_Notes_init_25 : decode c_Notes_init 25 = .ok (.putfield 18, 3) := by decide +kernel
theorem d_Notes_init_28 : decode c_Notes_init 28 = .ok (.return_, 1) := by decide +kernel
abbrev c_Notes_add : ByteArray := prog_5_method_2_code
def y_Notes_add : MethodName := ⟨RX3, "add", "(III)V"⟩
theorem d_Notes_add_0 : decode c_Notes_add 0 = .ok (.aload_n 0, 1) := by decide +kernel
theorem d_Notes_add_1 : decode c_Notes_add 1 = .ok (.getfield 21, 3) := by decide +kernel
theorem d_Notes_add_4 : decode c_Notes_add 4 = .ok (.bipush 10, 2) := by decide +kernel
theorem d_Notes_add_6 : decode c_Notes_add 6 = .ok (.if_icmp .ge 43, 3) := by decide +kernel
theorem d_Notes_add_9 : decode c_Notes_add 9 = .ok (.aload_n 0, 1) := by decide +kernel
theorem d_Notes_add_10 : decode c_Notes_add 10 = .ok (.getfield 9, 3) := by decide +kernel
theorem d_Notes_add_13 : decode c_Notes_add 13 = .ok (.aload_n 0, 1) := by decide +kernel
theorem d_Notes_add_14 : decode c_Notes_add 14 = .ok (.getfield 21, 3) := by decide +kernel
theorem d_Notes_add_17 : decode c_Notes_add 17 = .ok (.iload_n 1, 1) := by decide +kernel
theorem d_Notes_add_18 : decode c_Notes_add 18 = .ok (.iastore, 1) := by decide +kernel
theorem d_Notes_add_19 : decode c_Notes_add 19 = .ok (.aload_n 0, 1) := by decide +kernel
theorem d_Notes_add_20 : decode c_Notes_add 20 = .ok (.getfield 15, 3) := by decide +kernel
theorem d_Notes_add_23 : decode c_Notes_add 23 = .ok (.aload_n 0, 1) := by decide +kernel
theorem d_Notes_add_24 : decode c_Notes_add 24 = .ok (.getfield 21, 3) := by decide +kernel
theorem d_Notes_add_27 : decode c_Notes_add 27 = .ok (.iload_n 2, 1) := by decide +kernel
theorem d_Notes_add_28 : decode c_Notes_add 28 = .ok (.iastore, 1) := by decide +kernel
theorem d_Notes_add_29 : decode c_Notes_add 29 = .ok (.aload_n 0, 1) := by decide +kernel
theorem d_Notes_add_30 : decode c_Notes_add 30 = .ok (.getfield 18, 3) := by decide +kernel
theorem d_Notes_add_33 : decode c_Notes_add 33 = .ok (.aload_n 0, 1) := by decide +kernel
theorem d_Notes_add_34 : decode c_Notes_add 34 = .ok (.getfield 21, 3) := by decide +kernel
theorem d_Notes_add_37 : decode c_Notes_add 37 = .ok (.iload_n 3, 1) := by decide +kernel
theorem d_Notes_add_38 : decode c_Notes_add 38 = .ok (.iastore, 1) := by decide +kernel
theorem d_Notes_add_39 : decode c_Notes_add 39 = .ok (.aload_n 0, 1) := by decide +kernel
theorem d_Notes_add_40 : decode c_Notes_add 40 = .ok (.dup, 1) := by decide +kernel
theorem d_Notes_add_41 : decode c_Notes_add 41 = .ok (.getfield 21, 3) := by decide +kernel
theorem d_Notes_add_44 : decode c_Notes_add 44 = .ok (.iconst 1, 1) := by decide +kernel
theorem d_Notes_add_45 : decode c_Notes_add 45 = .ok (.iadd, 1) := by decide +kernel
theorem d_Notes_add_46 : decode c_Notes_add 46 = .ok (.putfield 21, 3) := by decide +kernel
theorem d_Notes_add_49 : decode c_Notes_add 49 = .ok (.return_, 1) := by decide +kernel
abbrev c_Notes_last : ByteArray := prog_5_method_3_code
def y_Notes_last : MethodName := ⟨RX3, "last", "()I"⟩
theorem d_Notes_last_0 : decode c_Notes_last 0 = .ok (.iconst (-1), 1) := by decide +kernel
theorem d_Notes_last_1 : decode c_Notes_last 1 = .ok (.istore_n 1, 1) := by decide +kernel
theorem d_Notes_last_2 : decode c_Notes_last 2 = .ok (.iconst 0, 1) := by decide +kernel
theorem d_Notes_last_3 : decode c_Notes_last 3 = .ok (.istore_n 2, 1) := by decide +kernel
theorem d_Notes_last_4 : decode c_Notes_last 4 = .ok (.iload_n 2, 1) := by decide +kernel
theorem d_Notes_last_5 : decode c_Notes_last 5 = .ok (.aload_n 0, 1) := by decide +kernel
theorem d_Notes_last_6 : decode c_Notes_last 6 = .ok (.getfield 21, 3) := by decide +kernel
theorem d_Notes_last_9 : decode c_Notes_last 9 = .ok (.if_icmp .ge 20, 3) := by decide +kernel
theorem d_Notes_last_12 : decode c_Notes_last 12 = .ok (.iload_n 1, 1) := by decide +kernel
theorem d_Notes_last_13 : decode c_Notes_last 13 = .ok (.aload_n 0, 1) := by decide +kernel
theorem d_Notes_last_14 : decode c_Notes_last 14 = .ok (.getfield 9, 3) := by decide +kernel
theorem d_Notes_last_17 : decode c_Notes_last 17 = .ok (.iload_n 2, 1) := by decide +kernel
theorem d_Notes_last_18 : decode c_Notes_last 18 = .ok (.iaload, 1) := by decide +kernel
theorem d_Notes_last_19 : decode c_Notes_last 19 = .ok (.invokestatic 25, 3) := by decide +kernel
theorem d_Notes_last_22 : decode c_Notes_last 22 = .ok (.istore_n 1, 1) := by decide +kernel
theorem d_Notes_last_23 : decode c_Notes_last 23 = .ok (.iinc 2 1, 3) := by decide +kernel
theorem d_Notes_last_26 : decode c_Notes_last 26 = .ok (.goto (-22), 3) := by decide +kernel
theorem d_Notes_last_29 : decode c_Notes_last 29 = .ok (.iload_n 1, 1) := by decide +kernel
theorem d_Notes_last_30 : decode c_Notes_last 30 = .ok (.ireturn, 1) := by decide +kernel
abbrev c_Notes_isSo : ByteArray := prog_5_method_4_code
def y_Notes_isSo : MethodName := ⟨RX3, "isSo", "(I[I)Z"⟩
theorem d_Notes_isSo_0 : decode c_Notes_isSo 0 = .ok (.iconst 0, 1) := by decide +kernel
theorem d_Notes_isSo_1 : decode c_Notes_isSo 1 = .ok (.istore_n 3, 1) := by decide +kernel
theorem d_Notes_isSo_2 : decode c_Notes_isSo 2 = .ok (.iload_n 3, 1) := by decide +kernel
theorem d_Notes_isSo_3 : decode c_Notes_isSo 3 = .ok (.aload_n 0, 1) := by decide +kernel
theorem d_Notes_isSo_4 : decode c_Notes_isSo 4 = .ok (.getfield 21, 3) := by decide +kernel
theorem d_Notes_isSo_7 : decode c_Notes_isSo 7 = .ok (.if_icmp .ge 38, 3) := by decide +kernel
theorem d_Notes_isSo_10 : decode c_Notes_isSo 10 = .ok (.aload_n 0, 1) := by decide +kernel
theorem d_Notes_isSo_11 : decode c_Notes_isSo 11 = .ok (.getfield 9, 3) := by decide +kernel
theorem d_Notes_isSo_14 : decode c_Notes_isSo 14 = .ok (.iload_n 3, 1) := by decide +kernel
theorem d_Notes_isSo_15 : decode c_Notes_isSo 15 = .ok (.iaload, 1) := by decide +kernel
theorem d_Notes_isSo_16 : decode c_Notes_isSo 16 = .ok (.iload_n 1, 1) := by decide +kernel
theorem d_Notes_isSo_17 : decode c_Notes_isSo 17 = .ok (.if_icmp .ne 22, 3) := by decide +kernel
theorem d_Notes_isSo_20 : decode c_Notes_isSo 20 = .ok (.aload_n 2, 1) := by decide +kernel
theorem d_Notes_isSo_21 : decode c_Notes_isSo 21 = .ok (.aload_n 0, 1) := by decide +kernel
theorem d_Notes_isSo_22 : decode c_Notes_isSo 22 = .ok (.getfield 15, 3) := by decide +kernel
theorem d_Notes_isSo_25 : decode c_Notes_isSo 25 = .ok (.iload_n 3, 1) := by decide +kernel
theorem d_Notes_isSo_26 : decode c_Notes_isSo 26 = .ok (.iaload, 1) := by decide +kernel
theorem d_Notes_isSo_27 : decode c_Notes_isSo 27 = .ok (.iaload, 1) := by decide +kernel
theorem d_Notes_isSo_28 : decode c_Notes_isSo 28 = .ok (.aload_n 0, 1) := by decide +kernel
theorem d_Notes_isSo_29 : decode c_Notes_isSo 29 = .ok (.getfield 18, 3) := by decide +kernel
theorem d_Notes_isSo_32 : decode c_Notes_isSo 32 = .ok (.iload_n 3, 1) := by decide +kernel
theorem d_Notes_isSo_33 : decode c_Notes_isSo 33 = .ok (.iaload, 1) := by decide +kernel
theorem d_Notes_isSo_34 : decode c_Notes_isSo 34 = .ok (.if_icmp .eq 5, 3) := by decide +kernel
theorem d_Notes_isSo_37 : decode c_Notes_isSo 37 = .ok (.iconst 0, 1) := by decide +kernel
theorem d_Notes_isSo_38 : decode c_Notes_isSo 38 = .ok (.ireturn, 1) := by decide +kernel
theorem d_Notes_isSo_39 : decode c_Notes_isSo 39 = .ok (.iinc 3 1, 3) := by decide +kernel
theorem d_Notes_isSo_42 : decode c_Notes_isSo 42 = .ok (.goto (-40), 3) := by decide +kernel
theorem d_Notes_isSo_45 : decode c_Notes_isSo 45 = .ok (.iconst 1, 1) := by decide +kernel
theorem d_Notes_isSo_46 : decode c_Notes_isSo 46 = .ok (.ireturn, 1) := by decide +kernel
abbrev c_Notes_copyFrom : ByteArray := prog_5_method_5_code
def y_Notes_copyFrom : MethodName := ⟨RX3, "copyFrom", "(LErrataRow$Notes;)V"⟩
theorem d_Notes_copyFrom_0 : decode c_Notes_copyFrom 0 = .ok (.aload_n 0, 1) := by decide +kernel
theorem d_Notes_copyFrom_1 : decode c_Notes_copyFrom 1 = .ok (.aload_n 1, 1) := by decide +kernel
theorem d_Notes_copyFrom_2 : decode c_Notes_copyFrom 2 = .ok (.getfield 21, 3) := by decide +kernel
theorem d_Notes_copyFrom_5 : decode c_Notes_copyFrom 5 = .ok (.putfield 21, 3) := by decide +kernel
theorem d_Notes_copyFrom_8 : decode c_Notes_copyFrom 8 = .ok (.aload_n 1, 1) := by decide +kernel
theorem d_Notes_copyFrom_9 : decode c_Notes_copyFrom 9 = .ok (.getfield 9, 3) := by decide +kernel
theorem d_Notes_copyFrom_12 : decode c_Notes_copyFrom 12 = .ok (.iconst 0, 1) := by decide +kernel
theorem d_Notes_copyFrom_13 : decode c_Notes_copyFrom 13 = .ok (.aload_n 0, 1) := by decide +kernel
theorem d_Notes_copyFrom_14 : decode c_Notes_copyFrom 14 = .ok (.getfield 9, 3) := by decide +kernel
theorem d_Notes_copyFrom_17 : decode c_Notes_copyFrom 17 = .ok (.iconst 0, 1) := by decide +kernel
theorem d_Notes_copyFrom_18 : decode c_Notes_copyFrom 18 = .ok (.bipush 10, 2) := by decide +kernel
theorem d_Notes_copyFrom_20 : decode c_Notes_copyFrom 20 = .ok (.invokestatic 31, 3) := by decide +kernel
theorem d_Notes_copyFrom_23 : decode c_Notes_copyFrom 23 = .ok (.aload_n 1, 1) := by decide +kernel
theorem d_Notes_copyFrom_24 : decode c_Notes_copyFrom 24 = .ok (.getfield 15, 3) := by decide +kernel
theorem d_Notes_copyFrom_27 : decode c_Notes_copyFrom 27 = .ok (.iconst 0, 1) := by decide +kernel
theorem d_Notes_copyFrom_28 : decode c_Notes_copyFrom 28 = .ok (.aload_n 0, 1) := by decide +kernel
theorem d_Notes_copyFrom_29 : decode c_Notes_copyFrom 29 = .ok (.getfield 15, 3) := by decide +kernel
theorem d_Notes_copyFrom_32 : decode c_Notes_copyFrom 32 = .ok (.iconst 0, 1) := by decide +kernel
theorem d_Notes_copyFrom_33 : decode c_Notes_copyFrom 33 = .ok (.bipush 10, 2) := by decide +kernel
theorem d_Notes_copyFrom_35 : decode c_Notes_copyFrom 35 = .ok (.invokestatic 31, 3) := by decide +kernel
theorem d_Notes_copyFrom_38 : decode c_Notes_copyFrom 38 = .ok (.aload_n 1, 1) := by decide +kernel
theorem d_Notes_copyFrom_39 : decode c_Notes_copyFrom 39 = .ok (.getfield 18, 3) := by decide +kernel
theorem d_Notes_copyFrom_42 : decode c_Notes_copyFrom 42 = .ok (.iconst 0, 1) := by decide +kernel
theorem d_Notes_copyFrom_43 : decode c_Notes_copyFrom 43 = .ok (.aload_n 0, 1) := by decide +kernel
theorem d_Notes_copyFrom_44 : decode c_Notes_copyFrom 44 = .ok (.getfield 18, 3) := by decide +kernel
theorem d_Notes_copyFrom_47 : decode c_Notes_copyFrom 47 = .ok (.iconst 0, 1) := by decide +kernel
theorem d_Notes_copyFrom_48 : decode c_Notes_copyFrom 48 = .ok (.bipush 10, 2) := by decide +kernel
theorem d_Notes_copyFrom_50 : decode c_Notes_copyFrom 50 = .ok (.invokestatic 31, 3) := by decide +kernel
theorem d_Notes_copyFrom_53 : decode c_Notes_copyFrom 53 = .ok (.return_, 1) := by decide +kernel
abbrev c_Press_init : ByteArray := prog_6_method_1_code
def y_Press_init : MethodName := ⟨RX4, "<init>", "(LErrataRow$Book;)V"⟩
theorem d_Press_init_0 : decode c_Press_init 0 = .ok (.aload_n 0, 1) := by decide +kernel
theorem d_Press_init_1 : decode c_Press_init 1 = .ok (.invokespecial 3, 3) := by decide +kernel
theorem d_Press_init_4 : decode c_Press_init 4 = .ok (.aload_n 0, 1) := by decide +kernel
theorem d_Press_init_5 : decode c_Press_init 5 = .ok (.bipush 12, 2) := by decide +kernel
theorem d_Press_init_7 : decode c_Press_init 7 = .ok (.newarray .long, 2) := by decide +kernel
theorem d_Press_init_9 : decode c_Press_init 9 = .ok (.putfield 11, 3) := by decide +kernel
theorem d_Press_init_12 : decode c_Press_init 12 = .ok (.aload_n 0, 1) := by decide +kernel
theorem d_Press_init_13 : decode c_Press_init 13 = .ok (.iconst (-1), 1) := by decide +kernel
theorem d_Press_init_14 : decode c_Press_init 14 = .ok (.putfield 17, 3) := by decide +kernel
theorem d_Press_init_17 : decode c_Press_init 17 = .ok (.aload_n 0, 1) := by decide +kernel
theorem d_Press_init_18 : decode c_Press_init 18 = .ok (.aload_n 1, 1) := by decide +kernel
theorem d_Press_init_19 : decode c_Press_init 19 = .ok (.putfield 21, 3) := by decide +kernel
theorem d_Press_init_22 : decode c_Press_init 22 = .ok (.return_, 1) := by decide +kernel
abbrev c_Press_wrongOf : ByteArray := prog_6_method_2_code
def y_Press_wrongOf : MethodName := ⟨RX4, "wrongOf", "(LErrataRow$State;)I"⟩
theorem d_Press_wrongOf_0 : decode c_Press_wrongOf 0 = .ok (.iconst 0, 1) := by decide +kernel
theorem d_Press_wrongOf_1 : decode c_Press_wrongOf 1 = .ok (.istore_n 2, 1) := by decide +kernel
theorem d_Press_wrongOf_2 : decode c_Press_wrongOf 2 = .ok (.iconst 0, 1) := by decide +kernel
theorem d_Press_wrongOf_3 : decode c_Press_wrongOf 3 = .ok (.istore_n 3, 1) := by decide +kernel
theorem d_Press_wrongOf_4 : decode c_Press_wrongOf 4 = .ok (.iload_n 3, 1) := by decide +kernel
theorem d_Press_wrongOf_5 : decode c_Press_wrongOf 5 = .ok (.aload_n 0, 1) := by decide +kernel
theorem d_Press_wrongOf_6 : decode c_Press_wrongOf 6 = .ok (.getfield 21, 3) := by decide +kernel
theorem d_Press_wrongOf_9 : decode c_Press_wrongOf 9 = .ok (.getfield 25, 3) := by decide +kernel
theorem d_Press_wrongOf_12 : decode c_Press_wrongOf 12 = .ok (.if_icmp .ge 33, 3) := by decide +kernel
theorem d_Press_wrongOf_15 : decode c_Press_wrongOf 15 = .ok (.aload_n 1, 1) := by decide +kernel
theorem d_Press_wrongOf_16 : decode c_Press_wrongOf 16 = .ok (.getfield 30, 3) := by decide +kernel
theorem d_Press_wrongOf_19 : decode c_Press_wrongOf 19 = .ok (.iload_n 3, 1) := by decide +kernel
theorem d_Press_wrongOf_20 : decode c_Press_wrongOf 20 = .ok (.iaload, 1) := by decide +kernel
theorem d_Press_wrongOf_21 : decode c_Press_wrongOf 21 = .ok (.aload_n 0, 1) := by decide +kernel
theorem d_Press_wrongOf_22 : decode c_Press_wrongOf 22 = .ok (.getfield 21, 3) := by decide +kernel
theorem d_Press_wrongOf_25 : decode c_Press_wrongOf 25 = .ok (.getfield 36, 3) := by decide +kernel
theorem d_Press_wrongOf_28 : decode c_Press_wrongOf 28 = .ok (.iload_n 3, 1) := by decide +kernel
theorem d_Press_wrongOf_29 : decode c_Press_wrongOf 29 = .ok (.iaload, 1) := by decide +kernel
theorem d_Press_wrongOf_30 : decode c_Press_wrongOf 30 = .ok (.if_icmp .eq 9, 3) := by decide +kernel
theorem d_Press_wrongOf_33 : decode c_Press_wrongOf 33 = .ok (.iload_n 2, 1) := by decide +kernel
theorem d_Press_wrongOf_34 : decode c_Press_wrongOf 34 = .ok (.iconst 1, 1) := by decide +kernel
theorem d_Press_wrongOf_35 : decode c_Press_wrongOf 35 = .ok (.iload_n 3, 1) := by decide +kernel
theorem d_Press_wrongOf_36 : decode c_Press_wrongOf 36 = .ok (.ishl, 1) := by decide +kernel
theorem d_Press_wrongOf_37 : decode c_Press_wrongOf 37 = .ok (.ior, 1) := by decide +kernel
theorem d_Press_wrongOf_38 : decode c_Press_wrongOf 38 = .ok (.istore_n 2, 1) := by decide +kernel
theorem d_Press_wrongOf_39 : decode c_Press_wrongOf 39 = .ok (.iinc 3 1, 3) := by decide +kernel
theorem d_Press_wrongOf_42 : decode c_Press_wrongOf 42 = .ok (.goto (-38), 3) := by decide +kernel
theorem d_Press_wrongOf_45 : decode c_Press_wrongOf 45 = .ok (.iload_n 2, 1) := by decide +kernel
theorem d_Press_wrongOf_46 : decode c_Press_wrongOf 46 = .ok (.ireturn, 1) := by decide +kernel
abbrev c_Press_howManyWrong : ByteArray := prog_6_method_3_code
def y_Press_howManyWrong : MethodName := ⟨RX4, "howManyWrong", "(LErrataRow$State;)I"⟩
theorem d_Press_howManyWrong_0 : decode c_Press_howManyWrong 0 = .ok (.aload_n 0, 1) := by decide +kernel
theorem d_Press_howManyWrong_1 : decode c_Press_howManyWrong 1 = .ok (.aload_n 1, 1) := by decide +kernel
theorem d_Press_howManyWrong_2 : decode c_Press_howManyWrong 2 = .ok (.invokevirtual 39, 3) := by decide +kernel
theorem d_Press_howManyWrong_5 : decode c_Press_howManyWrong 5 = .ok (.invokestatic 43, 3) := by decide +kernel
theorem d_Press_howManyWrong_8 : decode c_Press_howManyWrong 8 = .ok (.ireturn, 1) := by decide +kernel
abbrev c_Press_looseOf : ByteArray := prog_6_method_4_code
def y_Press_looseOf : MethodName := ⟨RX4, "looseOf", "(LErrataRow$State;)I"⟩
theorem d_Press_looseOf_0 : decode c_Press_looseOf 0 = .ok (.aload_n 0, 1) := by decide +kernel
theorem d_Press_looseOf_1 : decode c_Press_looseOf 1 = .ok (.aload_n 1, 1) := by decide +kernel
theorem d_Press_looseOf_2 : decode c_Press_looseOf 2 = .ok (.aload_n 0, 1) := by decide +kernel
theorem d_Press_looseOf_3 : decode c_Press_looseOf 3 = .ok (.aload_n 1, 1) := by decide +kernel
theorem d_Press_looseOf_4 : decode c_Press_looseOf 4 = .ok (.invokevirtual 39, 3) := by decide +kernel
theorem d_Press_looseOf_7 : decode c_Press_looseOf 7 = .ok (.invokevirtual 49, 3) := by decide +kernel
theorem d_Press_looseOf_10 : decode c_Press_looseOf 10 = .ok (.ireturn, 1) := by decide +kernel
abbrev c_Press_looseOfWrong : ByteArray := prog_6_method_5_code
def y_Press_looseOfWrong : MethodName := ⟨RX4, "looseOfWrong", "(LErrataRow$State;I)I"⟩
theorem d_Press_looseOfWrong_0 : decode c_Press_looseOfWrong 0 = .ok (.iconst 0, 1) := by decide +kernel
theorem d_Press_looseOfWrong_1 : decode c_Press_looseOfWrong 1 = .ok (.istore_n 3, 1) := by decide +kernel
theorem d_Press_looseOfWrong_2 : decode c_Press_looseOfWrong 2 = .ok (.iconst 0, 1) := by decide +kernel
theorem d_Press_looseOfWrong_3 : decode c_Press_looseOfWrong 3 = .ok (.istore 4, 2) := by decide +kernel
theorem d_Press_looseOfWrong_5 : decode c_Press_looseOfWrong 5 = .ok (.iload 4, 2) := by decide +kernel
theorem d_Press_looseOfWrong_7 : decode c_Press_looseOfWrong 7 = .ok (.aload_n 0, 1) := by decide +kernel
theorem d_Press_looseOfWrong_8 : decode c_Press_looseOfWrong 8 = .ok (.getfield 21, 3) := by decide +kernel
theorem d_Press_looseOfWrong_11 : decode c_Press_looseOfWrong 11 = .ok (.getfield 25, 3) := by decide +kernel
theorem d_Press_looseOfWrong_14 : decode c_Press_looseOfWrong 14 = .ok (.if_icmp .ge 37, 3) := by decide +kernel
theorem d_Press_looseOfWrong_17 : decode c_Press_looseOfWrong 17 = .ok (.iload_n 2, 1) := by decide +kernel
theorem d_Press_looseOfWrong_18 : decode c_Press_looseOfWrong 18 = .ok (.iload 4, 2) := by decide +kernel
theorem d_Press_looseOfWrong_20 : decode c_Press_looseOfWrong 20 = .ok (.invokestatic 53, 3) := by decide +kernel
theorem d_Press_looseOfWrong_23 : decode c_Press_looseOfWrong 23 = .ok (.ifCond .eq 22, 3) := by decide +kernel
theorem d_Press_looseOfWrong_26 : decode c_Press_looseOfWrong 26 = .ok (.aload_n 1, 1) := by decide +kernel
theorem d_Press_looseOfWrong_27 : decode c_Press_looseOfWrong 27 = .ok (.getfield 57, 3) := by decide +kernel
theorem d_Press_looseOfWrong_30 : decode c_Press_looseOfWrong 30 = .ok (.iload 4, 2) := by decide +kernel
theorem d_Press_looseOfWrong_32 : decode c_Press_looseOfWrong 32 = .ok (.iaload, 1) := by decide +kernel
theorem d_Press_looseOfWrong_33 : decode c_Press_looseOfWrong 33 = .ok (.iload_n 2, 1) := by decide +kernel
theorem d_Press_looseOfWrong_34 : decode c_Press_looseOfWrong 34 = .ok (.iand, 1) := by decide +kernel
theorem d_Press_looseOfWrong_35 : decode c_Press_looseOfWrong 35 = .ok (.ifCond .ne 10, 3) := by decide +kernel
theorem d_Press_looseOfWrong_38 : decode c_Press_looseOfWrong 38 = .ok (.iload_n 3, 1) := by decide +kernel
theorem d_Press_looseOfWrong_39 : decode c_Press_looseOfWrong 39 = .ok (.iconst 1, 1) := by decide +kernel
theorem d_Press_looseOfWrong_40 : decode c_Press_looseOfWrong 40 = .ok (.iload 4, 2) := by decide +kernel
theorem d_Press_looseOfWrong_42 : decode c_Press_looseOfWrong 42 = .ok (.ishl, 1) := by decide +kernel
theorem d_Press_looseOfWrong_43 : decode c_Press_looseOfWrong 43 = .ok (.ior, 1) := by decide +kernel
theorem d_Press_looseOfWrong_44 : decode c_Press_looseOfWrong 44 = .ok (.istore_n 3, 1) := by decide +kernel
theorem d_Press_looseOfWrong_45 : decode c_Press_looseOfWrong 45 = .ok (.iinc 4 1, 3) := by decide +kernel
theorem d_Press_looseOfWrong_48 : decode c_Press_looseOfWrong 48 = .ok (.goto (-43), 3) := by decide +kernel
theorem d_Press_looseOfWrong_51 : decode c_Press_looseOfWrong 51 = .ok (.iload_n 3, 1) := by decide +kernel
theorem d_Press_looseOfWrong_52 : decode c_Press_looseOfWrong 52 = .ok (.ireturn, 1) := by decide +kernel
abbrev c_Press_printEdition : ByteArray := prog_6_method_6_code
def y_Press_printEdition : MethodName := ⟨RX4, "printEdition", "(LErrataRow$State;)I"⟩
theorem d_Press_printEdition_0 : decode c_Press_printEdition 0 = .ok (.aload_n 0, 1) := by decide +kernel
theorem d_Press_printEdition_1 : decode c_Press_printEdition 1 = .ok (.aload_n 1, 1) := by decide +kernel
theorem d_Press_printEdition_2 : decode c_Press_printEdition 2 = .ok (.invokevirtual 60, 3) := by decide +kernel
theorem d_Press_printEdition_5 : decode c_Press_printEdition 5 = .ok (.istore_n 2, 1) := by decide +kernel
theorem d_Press_printEdition_6 : decode c_Press_printEdition 6 = .ok (.aload_n 0, 1) := by decide +kernel
theorem d_Press_printEdition_7 : decode c_Press_printEdition 7 = .ok (.aload_n 1, 1) := by decide +kernel
theorem d_Press_printEdition_8 : decode c_Press_printEdition 8 = .ok (.iload_n 2, 1) := by decide +kernel
theorem d_Press_printEdition_9 : decode c_Press_printEdition 9 = .ok (.invokevirtual 63, 3) := by decide +kernel
theorem d_Press_printEdition_12 : decode c_Press_printEdition 12 = .ok (.iload_n 2, 1) := by decide +kernel
theorem d_Press_printEdition_13 : decode c_Press_printEdition 13 = .ok (.ireturn, 1) := by decide +kernel
abbrev c_Press_printWith : ByteArray := prog_6_method_7_code
def y_Press_printWith : MethodName := ⟨RX4, "printWith", "(LErrataRow$State;I)V"⟩
theorem d_Press_printWith_0 : decode c_Press_printWith 0 = .ok (.iload_n 2, 1) := by decide +kernel
theorem d_Press_printWith_1 : decode c_Press_printWith 1 = .ok (.ifCond .lt 29, 3) := by decide +kernel
theorem d_Press_printWith_4 : decode c_Press_printWith 4 = .ok (.iload_n 2, 1) := by decide +kernel
theorem d_Press_printWith_5 : decode c_Press_printWith 5 = .ok (.aload_n 0, 1) := by decide +kernel
theorem d_Press_printWith_6 : decode c_Press_printWith 6 = .ok (.getfield 21, 3) := by decide +kernel
theorem d_Press_printWith_9 : decode c_Press_printWith 9 = .ok (.getfield 25, 3) := by decide +kernel
theorem d_Press_printWith_12 : decode c_Press_printWith 12 = .ok (.if_icmp .ge 18, 3) := by decide +kernel
theorem d_Press_printWith_15 : decode c_Press_printWith 15 = .ok (.aload_n 1, 1) := by decide +kernel
theorem d_Press_printWith_16 : decode c_Press_printWith 16 = .ok (.getfield 30, 3) := by decide +kernel
theorem d_Press_printWith_19 : decode c_Press_printWith 19 = .ok (.iload_n 2, 1) := by decide +kernel
theorem d_Press_printWith_20 : decode c_Press_printWith 20 = .ok (.aload_n 0, 1) := by decide +kernel
theorem d_Press_printWith_21 : decode c_Press_printWith 21 = .ok (.getfield 21, 3) := by decide +kernel
theorem d_Press_printWith_24 : decode c_Press_printWith 24 = .ok (.getfield 36, 3) := by decide +kernel
theorem d_Press_printWith_27 : decode c_Press_printWith 27 = .ok (.iload_n 2, 1) := by decide +kernel
theorem d_Press_printWith_28 : decode c_Press_printWith 28 = .ok (.iaload, 1) := by decide +kernel
theorem d_Press_printWith_29 : decode c_Press_printWith 29 = .ok (.iastore, 1) := by decide +kernel
theorem d_Press_printWith_30 : decode c_Press_printWith 30 = .ok (.aload_n 0, 1) := by decide +kernel
theorem d_Press_printWith_31 : decode c_Press_printWith 31 = .ok (.aload_n 1, 1) := by decide +kernel
theorem d_Press_printWith_32 : decode c_Press_printWith 32 = .ok (.iload_n 2, 1) := by decide +kernel
theorem d_Press_printWith_33 : decode c_Press_printWith 33 = .ok (.invokevirtual 67, 3) := by decide +kernel
theorem d_Press_printWith_36 : decode c_Press_printWith 36 = .ok (.aload_n 0, 1) := by decide +kernel
theorem d_Press_printWith_37 : decode c_Press_printWith 37 = .ok (.aload_n 1, 1) := by decide +kernel
theorem d_Press_printWith_38 : decode c_Press_printWith 38 = .ok (.invokevirtual 70, 3) := by decide +kernel
theorem d_Press_printWith_41 : decode c_Press_printWith 41 = .ok (.aload_n 1, 1) := by decide +kernel
theorem d_Press_printWith_42 : decode c_Press_printWith 42 = .ok (.dup, 1) := by decide +kernel
theorem d_Press_printWith_43 : decode c_Press_printWith 43 = .ok (.getfield 74, 3) := by decide +kernel
theorem d_Press_printWith_46 : decode c_Press_printWith 46 = .ok (.iconst 1, 1) := by decide +kernel
theorem d_Press_printWith_47 : decode c_Press_printWith 47 = .ok (.iadd, 1) := by decide +kernel
theorem d_Press_printWith_48 : decode c_Press_printWith 48 = .ok (.putfield 74, 3) := by decide +kernel
theorem d_Press_printWith_51 : decode c_Press_printWith 51 = .ok (.return_, 1) := by decide +kernel
abbrev c_Press_chosen : ByteArray := prog_6_method_8_code
def y_Press_chosen : MethodName := ⟨RX4, "chosen", "(LErrataRow$State;)I"⟩
theorem d_Press_chosen_0 : decode c_Press_chosen 0 = .ok (.aload_n 0, 1) := by decide +kernel
theorem d_Press_chosen_1 : decode c_Press_chosen 1 = .ok (.aload_n 1, 1) := by decide +kernel
theorem d_Press_chosen_2 : decode c_Press_chosen 2 = .ok (.invokevirtual 39, 3) := by decide +kernel
theorem d_Press_chosen_5 : decode c_Press_chosen 5 = .ok (.istore_n 2, 1) := by decide +kernel
theorem d_Press_chosen_6 : decode c_Press_chosen 6 = .ok (.aload_n 0, 1) := by decide +kernel
theorem d_Press_chosen_7 : decode c_Press_chosen 7 = .ok (.aload_n 1, 1) := by decide +kernel
theorem d_Press_chosen_8 : decode c_Press_chosen 8 = .ok (.iload_n 2, 1) := by decide +kernel
theorem d_Press_chosen_9 : decode c_Press_chosen 9 = .ok (.invokevirtual 49, 3) := by decide +kernel
theorem d_Press_chosen_12 : decode c_Press_chosen 12 = .ok (.istore_n 3, 1) := by decide +kernel
theorem d_Press_chosen_13 : decode c_Press_chosen 13 = .ok (.iload_n 3, 1) := by decide +kernel
theorem d_Press_chosen_14 : decode c_Press_chosen 14 = .ok (.ifCond .ne 5, 3) := by decide +kernel
theorem d_Press_chosen_17 : decode c_Press_chosen 17 = .ok (.iconst (-1), 1) := by decide +kernel
theorem d_Press_chosen_18 : decode c_Press_chosen 18 = .ok (.ireturn, 1) := by decide +kernel
theorem d_Press_chosen_19 : decode c_Press_chosen 19 = .ok (.aload_n 0, 1) := by decide +kernel
theorem d_Press_chosen_20 : decode c_Press_chosen 20 = .ok (.getfield 77, 3) := by decide +kernel
theorem d_Press_chosen_23 : decode c_Press_chosen 23 = .ok (.ifnonnull 8, 3) := by decide +kernel
theorem d_Press_chosen_26 : decode c_Press_chosen 26 = .ok (.iload_n 3, 1) := by decide +kernel
theorem d_Press_chosen_27 : decode c_Press_chosen 27 = .ok (.invokestatic 81, 3) := by decide +kernel
theorem d_Press_chosen_30 : decode c_Press_chosen 30 = .ok (.ireturn, 1) := by decide +kernel
theorem d_Press_chosen_31 : decode c_Press_chosen 31 = .ok (.aload_n 0, 1) := by decide +kernel
theorem d_Press_chosen_32 : decode c_Press_chosen 32 = .ok (.aload_n 1, 1) := by decide +kernel
theorem d_Press_chosen_33 : decode c_Press_chosen 33 = .ok (.iload_n 2, 1) := by decide +kernel
theorem d_Press_chosen_34 : decode c_Press_chosen 34 = .ok (.iload_n 3, 1) := by decide +kernel
theorem d_Press_chosen_35 : decode c_Press_chosen 35 = .ok (.invokevirtual 84, 3) := by decide +kernel
theorem d_Press_chosen_38 : decode c_Press_chosen 38 = .ok (.iconst (-1), 1) := by decide +kernel
theorem d_Press_chosen_39 : decode c_Press_chosen 39 = .ok (.istore 4, 2) := by decide +kernel
theorem d_Press_chosen_41 : decode c_Press_chosen 41 = .ok (.lconst 0, 1) := by decide +kernel
theorem d_Press_chosen_42 : decode c_Press_chosen 42 = .ok (.lstore 5, 2) := by decide +kernel
theorem d_Press_chosen_44 : decode c_Press_chosen 44 = .ok (.iconst 0, 1) := by decide +kernel
theorem d_Press_chosen_45 : decode c_Press_chosen 45 = .ok (.istore 7, 2) := by decide +kernel
theorem d_Press_chosen_47 : decode c_Press_chosen 47 = .ok (.iload 7, 2) := by decide +kernel
theorem d_Press_chosen_49 : decode c_Press_chosen 49 = .ok (.aload_n 0, 1) := by decide +kernel
theorem d_Press_chosen_50 : decode c_Press_chosen 50 = .ok (.getfield 21, 3) := by decide +kernel
theorem d_Press_chosen_53 : decode c_Press_chosen 53 = .ok (.getfield 25, 3) := by decide +kernel
theorem d_Press_chosen_56 : decode c_Press_chosen 56 = .ok (.if_icmp .ge 55, 3) := by decide +kernel
theorem d_Press_chosen_59 : decode c_Press_chosen 59 = .ok (.iload_n 3, 1) := by decide +kernel
theorem d_Press_chosen_60 : decode c_Press_chosen 60 = .ok (.iload 7, 2) := by decide +kernel
theorem d_Press_chosen_62 : decode c_Press_chosen 62 = .ok (.invokestatic 53, 3) := by decide +kernel
theorem d_Press_chosen_65 : decode c_Press_chosen 65 = .ok (.ifCond .eq 40, 3) := by decide +kernel
theorem d_Press_chosen_68 : decode c_Press_chosen 68 = .ok (.aload_n 0, 1) := by decide +kernel
theorem d_Press_chosen_69 : decode c_Press_chosen 69 = .ok (.aload_n 1, 1) := by decide +kernel
theorem d_Press_chosen_70 : decode c_Press_chosen 70 = .ok (.iload 7, 2) := by decide +kernel
theorem d_Press_chosen_72 : decode c_Press_chosen 72 = .ok (.iload_n 2, 1) := by decide +kernel
theorem d_Press_chosen_73 : decode c_Press_chosen 73 = .ok (.invokevirtual 88, 3) := by decide +kernel
theorem d_Press_chosen_76 : decode c_Press_chosen 76 = .ok (.aload_n 0, 1) := by decide +kernel
theorem d_Press_chosen_77 : decode c_Press_chosen 77 = .ok (.getfield 77, 3) := by decide +kernel
theorem d_Press_chosen_80 : decode c_Press_chosen 80 = .ok (.aload_n 0, 1) := by decide +kernel
theorem d_Press_chosen_81 : decode c_Press_chosen 81 = .ok (.getfield 11, 3) := by decide +kernel
theorem d_Press_chosen_84 : decode c_Press_chosen 84 = .ok (.invokevirtual 91, 3) := by decide +kernel
theorem d_Press_chosen_87 : decode c_Press_chosen 87 = .ok (.lstore 8, 2) := by decide +kernel
theorem d_Press_chosen_89 : decode c_Press_chosen 89 = .ok (.lload 8, 2) := by decide +kernel
theorem d_Press_chosen_91 : decode c_Press_chosen 91 = .ok (.lload 5, 2) := by decide +kernel
theorem d_Press_chosen_93 : decode c_Press_chosen 93 = .ok (.lcmp, 1) := by decide +kernel
theorem d_Press_chosen_94 : decode c_Press_chosen 94 = .ok (.ifCond .le 11, 3) := by decide +kernel
theorem d_Press_chosen_97 : decode c_Press_chosen 97 = .ok (.lload 8, 2) := by decide +kernel
theorem d_Press_chosen_99 : decode c_Press_chosen 99 = .ok (.lstore 5, 2) := by decide +kernel
theorem d_Press_chosen_101 : decode c_Press_chosen 101 = .ok (.iload 7, 2) := by decide +kernel
theorem d_Press_chosen_103 : decode c_Press_chosen 103 = .ok (.istore 4, 2) := by decide +kernel
theorem d_Press_chosen_105 : decode c_Press_chosen 105 = .ok (.iinc 7 1, 3) := by decide +kernel
theorem d_Press_chosen_108 : decode c_Press_chosen 108 = .ok (.goto (-61), 3) := by decide +kernel
theorem d_Press_chosen_111 : decode c_Press_chosen 111 = .ok (.iload 4, 2) := by decide +kernel
theorem d_Press_chosen_113 : decode c_Press_chosen 113 = .ok (.ireturn, 1) := by decide +kernel
abbrev c_Press_habitOf : ByteArray := prog_6_method_9_code
def y_Press_habitOf : MethodName := ⟨RX4, "habitOf", "(LErrataRow$State;)I"⟩
theorem d_Press_habitOf_0 : decode c_Press_habitOf 0 = .ok (.aload_n 0, 1) := by decide +kernel
theorem d_Press_habitOf_1 : decode c_Press_habitOf 1 = .ok (.getfield 21, 3) := by decide +kernel
theorem d_Press_habitOf_4 : decode c_Press_habitOf 4 = .ok (.getfield 97, 3) := by decide +kernel
theorem d_Press_habitOf_7 : decode c_Press_habitOf 7 = .ok (.ifCond .le 18, 3) := by decide +kernel
theorem d_Press_habitOf_10 : decode c_Press_habitOf 10 = .ok (.aload_n 1, 1) := by decide +kernel
theorem d_Press_habitOf_11 : decode c_Press_habitOf 11 = .ok (.getfield 74, 3) := by decide +kernel
theorem d_Press_habitOf_14 : decode c_Press_habitOf 14 = .ok (.aload_n 0, 1) := by decide +kernel
theorem d_Press_habitOf_15 : decode c_Press_habitOf 15 = .ok (.getfield 21, 3) := by decide +kernel
theorem d_Press_habitOf_18 : decode c_Press_habitOf 18 = .ok (.getfield 97, 3) := by decide +kernel
theorem d_Press_habitOf_21 : decode c_Press_habitOf 21 = .ok (.irem, 1) := by decide +kernel
theorem d_Press_habitOf_22 : decode c_Press_habitOf 22 = .ok (.goto 4, 3) := by decide +kernel
theorem d_Press_habitOf_25 : decode c_Press_habitOf 25 = .ok (.iconst 0, 1) := by decide +kernel
theorem d_Press_habitOf_26 : decode c_Press_habitOf 26 = .ok (.ireturn, 1) := by decide +kernel
abbrev c_Press_tellWords : ByteArray := prog_6_method_10_code
def y_Press_tellWords : MethodName := ⟨RX4, "tellWords", "(LErrataRow$State;II)V"⟩
theorem d_Press_tellWords_0 : decode c_Press_tellWords 0 = .ok (.aload_n 0, 1) := by decide +kernel
theorem d_Press_tellWords_1 : decode c_Press_tellWords 1 = .ok (.aload_n 1, 1) := by decide +kernel
theorem d_Press_tellWords_2 : decode c_Press_tellWords 2 = .ok (.invokevirtual 100, 3) := by decide +kernel
theorem d_Press_tellWords_5 : decode c_Press_tellWords 5 = .ok (.istore 4, 2) := by decide +kernel
theorem d_Press_tellWords_7 : decode c_Press_tellWords 7 = .ok (.aload_n 0, 1) := by decide +kernel
theorem d_Press_tellWords_8 : decode c_Press_tellWords 8 = .ok (.getfield 11, 3) := by decide +kernel
theorem d_Press_tellWords_11 : decode c_Press_tellWords 11 = .ok (.iconst 4, 1) := by decide +kernel
theorem d_Press_tellWords_12 : decode c_Press_tellWords 12 = .ok (.iload_n 3, 1) := by decide +kernel
theorem d_Press_tellWords_13 : decode c_Press_tellWords 13 = .ok (.invokestatic 43, 3) := by decide +kernel
theorem d_Press_tellWords_16 : decode c_Press_tellWords 16 = .ok (.i2l, 1) := by decide +kernel
theorem d_Press_tellWords_17 : decode c_Press_tellWords 17 = .ok (.lastore, 1) := by decide +kernel
theorem d_Press_tellWords_18 : decode c_Press_tellWords 18 = .ok (.aload_n 0, 1) := by decide +kernel
theorem d_Press_tellWords_19 : decode c_Press_tellWords 19 = .ok (.getfield 11, 3) := by decide +kernel
theorem d_Press_tellWords_22 : decode c_Press_tellWords 22 = .ok (.iconst 5, 1) := by decide +kernel
theorem d_Press_tellWords_23 : decode c_Press_tellWords 23 = .ok (.iload_n 2, 1) := by decide +kernel
theorem d_Press_tellWords_24 : decode c_Press_tellWords 24 = .ok (.invokestatic 43, 3) := by decide +kernel
theorem d_Press_tellWords_27 : decode c_Press_tellWords 27 = .ok (.i2l, 1) := by decide +kernel
theorem d_Press_tellWords_28 : decode c_Press_tellWords 28 = .ok (.lastore, 1) := by decide +kernel
theorem d_Press_tellWords_29 : decode c_Press_tellWords 29 = .ok (.aload_n 0, 1) := by decide +kernel
theorem d_Press_tellWords_30 : decode c_Press_tellWords 30 = .ok (.getfield 11, 3) := by decide +kernel
theorem d_Press_tellWords_33 : decode c_Press_tellWords 33 = .ok (.bipush 7, 2) := by decide +kernel
theorem d_Press_tellWords_35 : decode c_Press_tellWords 35 = .ok (.aload_n 1, 1) := by decide +kernel
theorem d_Press_tellWords_36 : decode c_Press_tellWords 36 = .ok (.getfield 103, 3) := by decide +kernel
theorem d_Press_tellWords_39 : decode c_Press_tellWords 39 = .ok (.i2l, 1) := by decide +kernel
theorem d_Press_tellWords_40 : decode c_Press_tellWords 40 = .ok (.lastore, 1) := by decide +kernel
theorem d_Press_tellWords_41 : decode c_Press_tellWords 41 = .ok (.aload_n 0, 1) := by decide +kernel
theorem d_Press_tellWords_42 : decode c_Press_tellWords 42 = .ok (.getfield 11, 3) := by decide +kernel
theorem d_Press_tellWords_45 : decode c_Press_tellWords 45 = .ok (.bipush 8, 2) := by decide +kernel
theorem d_Press_tellWords_47 : decode c_Press_tellWords 47 = .ok (.aload_n 1, 1) := by decide +kernel
theorem d_Press_tellWords_48 : decode c_Press_tellWords 48 = .ok (.getfield 106, 3) := by decide +kernel
theorem d_Press_tellWords_51 : decode c_Press_tellWords 51 = .ok (.i2l, 1) := by decide +kernel
theorem d_Press_tellWords_52 : decode c_Press_tellWords 52 = .ok (.lastore, 1) := by decide +kernel
theorem d_Press_tellWords_53 : decode c_Press_tellWords 53 = .ok (.aload_n 0, 1) := by decide +kernel
theorem d_Press_tellWords_54 : decode c_Press_tellWords 54 = .ok (.getfield 11, 3) := by decide +kernel
theorem d_Press_tellWords_57 : decode c_Press_tellWords 57 = .ok (.bipush 9, 2) := by decide +kernel
theorem d_Press_tellWords_59 : decode c_Press_tellWords 59 = .ok (.aload_n 0, 1) := by decide +kernel
theorem d_Press_tellWords_60 : decode c_Press_tellWords 60 = .ok (.getfield 21, 3) := by decide +kernel
theorem d_Press_tellWords_63 : decode c_Press_tellWords 63 = .ok (.getfield 109, 3) := by decide +kernel
theorem d_Press_tellWords_66 : decode c_Press_tellWords 66 = .ok (.iload 4, 2) := by decide +kernel
theorem d_Press_tellWords_68 : decode c_Press_tellWords 68 = .ok (.iaload, 1) := by decide +kernel
theorem d_Press_tellWords_69 : decode c_Press_tellWords 69 = .ok (.i2l, 1) := by decide +kernel
theorem d_Press_tellWords_70 : decode c_Press_tellWords 70 = .ok (.lastore, 1) := by decide +kernel
theorem d_Press_tellWords_71 : decode c_Press_tellWords 71 = .ok (.aload_n 0, 1) := by decide +kernel
theorem d_Press_tellWords_72 : decode c_Press_tellWords 72 = .ok (.getfield 11, 3) := by decide +kernel
theorem d_Press_tellWords_75 : decode c_Press_tellWords 75 = .ok (.bipush 10, 2) := by decide +kernel
theorem d_Press_tellWords_77 : decode c_Press_tellWords 77 = .ok (.aload_n 0, 1) := by decide +kernel
theorem d_Press_tellWords_78 : decode c_Press_tellWords 78 = .ok (.getfield 21, 3) := by decide +kernel
theorem d_Press_tellWords_81 : decode c_Press_tellWords 81 = .ok (.getfield 112, 3) := by decide +kernel
theorem d_Press_tellWords_84 : decode c_Press_tellWords 84 = .ok (.iload 4, 2) := by decide +kernel
theorem d_Press_tellWords_86 : decode c_Press_tellWords 86 = .ok (.iaload, 1) := by decide +kernel
theorem d_Press_tellWords_87 : decode c_Press_tellWords 87 = .ok (.i2l, 1) := by decide +kernel
theorem d_Press_tellWords_88 : decode c_Press_tellWords 88 = .ok (.lastore, 1) := by decide +kernel
theorem d_Press_tellWords_89 : decode c_Press_tellWords 89 = .ok (.aload_n 0, 1) := by decide +kernel
theorem d_Press_tellWords_90 : decode c_Press_tellWords 90 = .ok (.getfield 11, 3) := by decide +kernel
theorem d_Press_tellWords_93 : decode c_Press_tellWords 93 = .ok (.bipush 11, 2) := by decide +kernel
theorem d_Press_tellWords_95 : decode c_Press_tellWords 95 = .ok (.aload_n 1, 1) := by decide +kernel
theorem d_Press_tellWords_96 : decode c_Press_tellWords 96 = .ok (.getfield 74, 3) := by decide +kernel
theorem d_Press_tellWords_99 : decode c_Press_tellWords 99 = .ok (.i2l, 1) := by decide +kernel
theorem d_Press_tellWords_100 : decode c_Press_tellWords 100 = .ok (.lastore, 1) := by decide +kernel
theorem d_Press_tellWords_101 : decode c_Press_tellWords 101 = .ok (.return_, 1) := by decide +kernel
abbrev c_Press_tellWordsOf : ByteArray := prog_6_method_11_code
def y_Press_tellWordsOf : MethodName := ⟨RX4, "tellWordsOf", "(LErrataRow$State;II)V"⟩
theorem d_Press_tellWordsOf_0 : decode c_Press_tellWordsOf 0 = .ok (.iconst 0, 1) := by decide +kernel
theorem d_Press_tellWordsOf_1 : decode c_Press_tellWordsOf 1 = .ok (.istore 4, 2) := by decide +kernel
theorem d_Press_tellWordsOf_3 : decode c_Press_tellWordsOf 3 = .ok (.iconst 0, 1) := by decide +kernel
theorem d_Press_tellWordsOf_4 : decode c_Press_tellWordsOf 4 = .ok (.istore 5, 2) := by decide +kernel
theorem d_Press_tellWordsOf_6 : decode c_Press_tellWordsOf 6 = .ok (.iload 5, 2) := by decide +kernel
theorem d_Press_tellWordsOf_8 : decode c_Press_tellWordsOf 8 = .ok (.aload_n 0, 1) := by decide +kernel
theorem d_Press_tellWordsOf_9 : decode c_Press_tellWordsOf 9 = .ok (.getfield 21, 3) := by decide +kernel
theorem d_Press_tellWordsOf_12 : decode c_Press_tellWordsOf 12 = .ok (.getfield 25, 3) := by decide +kernel
theorem d_Press_tellWordsOf_15 : decode c_Press_tellWordsOf 15 = .ok (.if_icmp .ge 35, 3) := by decide +kernel
theorem d_Press_tellWordsOf_18 : decode c_Press_tellWordsOf 18 = .ok (.iload_n 3, 1) := by decide +kernel
theorem d_Press_tellWordsOf_19 : decode c_Press_tellWordsOf 19 = .ok (.iload 5, 2) := by decide +kernel
theorem d_Press_tellWordsOf_21 : decode c_Press_tellWordsOf 21 = .ok (.invokestatic 53, 3) := by decide +kernel
theorem d_Press_tellWordsOf_24 : decode c_Press_tellWordsOf 24 = .ok (.ifCond .eq 20, 3) := by decide +kernel
theorem d_Press_tellWordsOf_27 : decode c_Press_tellWordsOf 27 = .ok (.aload_n 1, 1) := by decide +kernel
theorem d_Press_tellWordsOf_28 : decode c_Press_tellWordsOf 28 = .ok (.getfield 57, 3) := by decide +kernel
theorem d_Press_tellWordsOf_31 : decode c_Press_tellWordsOf 31 = .ok (.iload 5, 2) := by decide +kernel
theorem d_Press_tellWordsOf_33 : decode c_Press_tellWordsOf 33 = .ok (.iaload, 1) := by decide +kernel
theorem d_Press_tellWordsOf_34 : decode c_Press_tellWordsOf 34 = .ok (.iload_n 2, 1) := by decide +kernel
theorem d_Press_tellWordsOf_35 : decode c_Press_tellWordsOf 35 = .ok (.invokestatic 53, 3) := by decide +kernel
theorem d_Press_tellWordsOf_38 : decode c_Press_tellWordsOf 38 = .ok (.ifCond .eq 6, 3) := by decide +kernel
theorem d_Press_tellWordsOf_41 : decode c_Press_tellWordsOf 41 = .ok (.iinc 4 1, 3) := by decide +kernel
theorem d_Press_tellWordsOf_44 : decode c_Press_tellWordsOf 44 = .ok (.iinc 5 1, 3) := by decide +kernel
theorem d_Press_tellWordsOf_47 : decode c_Press_tellWordsOf 47 = .ok (.goto (-41), 3) := by decide +kernel
theorem d_Press_tellWordsOf_50 : decode c_Press_tellWordsOf 50 = .ok (.aload_n 0, 1) := by decide +kernel
theorem d_Press_tellWordsOf_51 : decode c_Press_tellWordsOf 51 = .ok (.getfield 11, 3) := by decide +kernel
theorem d_Press_tellWordsOf_54 : decode c_Press_tellWordsOf 54 = .ok (.iconst 0, 1) := by decide +kernel
theorem d_Press_tellWordsOf_55 : decode c_Press_tellWordsOf 55 = .ok (.iload_n 2, 1) := by decide +kernel
theorem d_Press_tellWordsOf_56 : decode c_Press_tellWordsOf 56 = .ok (.i2l, 1) := by decide +kernel
theorem d_Press_tellWordsOf_57 : decode c_Press_tellWordsOf 57 = .ok (.lastore, 1) := by decide +kernel
theorem d_Press_tellWordsOf_58 : decode c_Press_tellWordsOf 58 = .ok (.aload_n 0, 1) := by decide +kernel
theorem d_Press_tellWordsOf_59 : decode c_Press_tellWordsOf 59 = .ok (.getfield 11, 3) := by decide +kernel
theorem d_Press_tellWordsOf_62 : decode c_Press_tellWordsOf 62 = .ok (.iconst 1, 1) := by decide +kernel
theorem d_Press_tellWordsOf_63 : decode c_Press_tellWordsOf 63 = .ok (.aload_n 1, 1) := by decide +kernel
theorem d_Press_tellWordsOf_64 : decode c_Press_tellWordsOf 64 = .ok (.getfield 30, 3) := by decide +kernel
theorem d_Press_tellWordsOf_67 : decode c_Press_tellWordsOf 67 = .ok (.iload_n 2, 1) := by decide +kernel
theorem d_Press_tellWordsOf_68 : decode c_Press_tellWordsOf 68 = .ok (.iaload, 1) := by decide +kernel
theorem d_Press_tellWordsOf_69 : decode c_Press_tellWordsOf 69 = .ok (.i2l, 1) := by decide +kernel
theorem d_Press_tellWordsOf_70 : decode c_Press_tellWordsOf 70 = .ok (.lastore, 1) := by decide +kernel
theorem d_Press_tellWordsOf_71 : decode c_Press_tellWordsOf 71 = .ok (.aload_n 0, 1) := by decide +kernel
theorem d_Press_tellWordsOf_72 : decode c_Press_tellWordsOf 72 = .ok (.getfield 11, 3) := by decide +kernel
theorem d_Press_tellWordsOf_75 : decode c_Press_tellWordsOf 75 = .ok (.iconst 2, 1) := by decide +kernel
theorem d_Press_tellWordsOf_76 : decode c_Press_tellWordsOf 76 = .ok (.aload_n 0, 1) := by decide +kernel
theorem d_Press_tellWordsOf_77 : decode c_Press_tellWordsOf 77 = .ok (.getfield 21, 3) := by decide +kernel
theorem d_Press_tellWordsOf_80 : decode c_Press_tellWordsOf 80 = .ok (.getfield 36, 3) := by decide +kernel
theorem d_Press_tellWordsOf_83 : decode c_Press_tellWordsOf 83 = .ok (.iload_n 2, 1) := by decide +kernel
theorem d_Press_tellWordsOf_84 : decode c_Press_tellWordsOf 84 = .ok (.iaload, 1) := by decide +kernel
theorem d_Press_tellWordsOf_85 : decode c_Press_tellWordsOf 85 = .ok (.i2l, 1) := by decide +kernel
theorem d_Press_tellWordsOf_86 : decode c_Press_tellWordsOf 86 = .ok (.lastore, 1) := by decide +kernel
theorem d_Press_tellWordsOf_87 : decode c_Press_tellWordsOf 87 = .ok (.aload_n 0, 1) := by decide +kernel
theorem d_Press_tellWordsOf_88 : decode c_Press_tellWordsOf 88 = .ok (.getfield 11, 3) := by decide +kernel
theorem d_Press_tellWordsOf_91 : decode c_Press_tellWordsOf 91 = .ok (.iconst 3, 1) := by decide +kernel
theorem d_Press_tellWordsOf_92 : decode c_Press_tellWordsOf 92 = .ok (.iload 4, 2) := by decide +kernel
theorem d_Press_tellWordsOf_94 : decode c_Press_tellWordsOf 94 = .ok (.i2l, 1) := by decide +kernel
theorem d_Press_tellWordsOf_95 : decode c_Press_tellWordsOf 95 = .ok (.lastore, 1) := by decide +kernel
theorem d_Press_tellWordsOf_96 : decode c_Press_tellWordsOf 96 = .ok (.aload_n 0, 1) := by decide +kernel
theorem d_Press_tellWordsOf_97 : decode c_Press_tellWordsOf 97 = .ok (.getfield 11, 3) := by decide +kernel
theorem d_Press_tellWordsOf_100 : decode c_Press_tellWordsOf 100 = .ok (.bipush 6, 2) := by decide +kernel
theorem d_Press_tellWordsOf_102 : decode c_Press_tellWordsOf 102 = .ok (.aload_n 1, 1) := by decide +kernel
theorem d_Press_tellWordsOf_103 : decode c_Press_tellWordsOf 103 = .ok (.getfield 115, 3) := by decide +kernel
theorem d_Press_tellWordsOf_106 : decode c_Press_tellWordsOf 106 = .ok (.iload_n 2, 1) := by decide +kernel
theorem d_Press_tellWordsOf_107 : decode c_Press_tellWordsOf 107 = .ok (.iaload, 1) := by decide +kernel
theorem d_Press_tellWordsOf_108 : decode c_Press_tellWordsOf 108 = .ok (.i2l, 1) := by decide +kernel
theorem d_Press_tellWordsOf_109 : decode c_Press_tellWordsOf 109 = .ok (.lastore, 1) := by decide +kernel
theorem d_Press_tellWordsOf_110 : decode c_Press_tellWordsOf 110 = .ok (.return_, 1) := by decide +kernel
abbrev c_Press_putByHabit : ByteArray := prog_6_method_12_code
def y_Press_putByHabit : MethodName := ⟨RX4, "putByHabit", "(LErrataRow$State;I)V"⟩
theorem d_Press_putByHabit_0 : decode c_Press_putByHabit 0 = .ok (.aload_n 0, 1) := by decide +kernel
theorem d_Press_putByHabit_1 : decode c_Press_putByHabit 1 = .ok (.aload_n 1, 1) := by decide +kernel
theorem d_Press_putByHabit_2 : decode c_Press_putByHabit 2 = .ok (.invokevirtual 100, 3) := by decide +kernel
theorem d_Press_putByHabit_5 : decode c_Press_putByHabit 5 = .ok (.istore_n 3, 1) := by decide +kernel
theorem d_Press_putByHabit_6 : decode c_Press_putByHabit 6 = .ok (.iload_n 3, 1) := by decide +kernel
theorem d_Press_putByHabit_7 : decode c_Press_putByHabit 7 = .ok (.aload_n 0, 1) := by decide +kernel
theorem d_Press_putByHabit_8 : decode c_Press_putByHabit 8 = .ok (.getfield 17, 3) := by decide +kernel
theorem d_Press_putByHabit_11 : decode c_Press_putByHabit 11 = .ok (.if_icmp .ne 4, 3) := by decide +kernel
theorem d_Press_putByHabit_14 : decode c_Press_putByHabit 14 = .ok (.return_, 1) := by decide +kernel
theorem d_Press_putByHabit_15 : decode c_Press_putByHabit 15 = .ok (.iconst 0, 1) := by decide +kernel
theorem d_Press_putByHabit_16 : decode c_Press_putByHabit 16 = .ok (.istore 4, 2) := by decide +kernel
theorem d_Press_putByHabit_18 : decode c_Press_putByHabit 18 = .ok (.iload 4, 2) := by decide +kernel
theorem d_Press_putByHabit_20 : decode c_Press_putByHabit 20 = .ok (.aload_n 0, 1) := by decide +kernel
theorem d_Press_putByHabit_21 : decode c_Press_putByHabit 21 = .ok (.getfield 21, 3) := by decide +kernel
theorem d_Press_putByHabit_24 : decode c_Press_putByHabit 24 = .ok (.getfield 25, 3) := by decide +kernel
theorem d_Press_putByHabit_27 : decode c_Press_putByHabit 27 = .ok (.if_icmp .ge 51, 3) := by decide +kernel
theorem d_Press_putByHabit_30 : decode c_Press_putByHabit 30 = .ok (.iload 4, 2) := by decide +kernel
theorem d_Press_putByHabit_32 : decode c_Press_putByHabit 32 = .ok (.iload_n 2, 1) := by decide +kernel
theorem d_Press_putByHabit_33 : decode c_Press_putByHabit 33 = .ok (.if_icmp .eq 39, 3) := by decide +kernel
theorem d_Press_putByHabit_36 : decode c_Press_putByHabit 36 = .ok (.aload_n 1, 1) := by decide +kernel
theorem d_Press_putByHabit_37 : decode c_Press_putByHabit 37 = .ok (.getfield 30, 3) := by decide +kernel
theorem d_Press_putByHabit_40 : decode c_Press_putByHabit 40 = .ok (.iload 4, 2) := by decide +kernel
theorem d_Press_putByHabit_42 : decode c_Press_putByHabit 42 = .ok (.iaload, 1) := by decide +kernel
theorem d_Press_putByHabit_43 : decode c_Press_putByHabit 43 = .ok (.aload_n 0, 1) := by decide +kernel
theorem d_Press_putByHabit_44 : decode c_Press_putByHabit 44 = .ok (.getfield 21, 3) := by decide +kernel
theorem d_Press_putByHabit_47 : decode c_Press_putByHabit 47 = .ok (.getfield 109, 3) := by decide +kernel
theorem d_Press_putByHabit_50 : decode c_Press_putByHabit 50 = .ok (.iload_n 3, 1) := by decide +kernel
theorem d_Press_putByHabit_51 : decode c_Press_putByHabit 51 = .ok (.iaload, 1) := by decide +kernel
theorem d_Press_putByHabit_52 : decode c_Press_putByHabit 52 = .ok (.if_icmp .ne 20, 3) := by decide +kernel
theorem d_Press_putByHabit_55 : decode c_Press_putByHabit 55 = .ok (.aload_n 1, 1) := by decide +kernel
theorem d_Press_putByHabit_56 : decode c_Press_putByHabit 56 = .ok (.getfield 30, 3) := by decide +kernel
theorem d_Press_putByHabit_59 : decode c_Press_putByHabit 59 = .ok (.iload 4, 2) := by decide +kernel
theorem d_Press_putByHabit_61 : decode c_Press_putByHabit 61 = .ok (.aload_n 0, 1) := by decide +kernel
theorem d_Press_putByHabit_62 : decode c_Press_putByHabit 62 = .ok (.getfield 21, 3) := by decide +kernel
theorem d_Press_putByHabit_65 : decode c_Press_putByHabit 65 = .ok (.getfield 112, 3) := by decide +kernel
theorem d_Press_putByHabit_68 : decode c_Press_putByHabit 68 = .ok (.iload_n 3, 1) := by decide +kernel
theorem d_Press_putByHabit_69 : decode c_Press_putByHabit 69 = .ok (.iaload, 1) := by decide +kernel
theorem d_Press_putByHabit_70 : decode c_Press_putByHabit 70 = .ok (.iastore, 1) := by decide +kernel
theorem d_Press_putByHabit_71 : decode c_Press_putByHabit 71 = .ok (.return_, 1) := by decide +kernel
theorem d_Press_putByHabit_72 : decode c_Press_putByHabit 72 = .ok (.iinc 4 1, 3) := by decide +kernel
theorem d_Press_putByHabit_75 : decode c_Press_putByHabit 75 = .ok (.goto (-57), 3) := by decide +kernel
theorem d_Press_putByHabit_78 : decode c_Press_putByHabit 78 = .ok (.return_, 1) := by decide +kernel
abbrev c_Press_payAll : ByteArray := prog_6_method_13_code
def y_Press_payAll : MethodName := ⟨RX4, "payAll", "(LErrataRow$State;)V"⟩
theorem d_Press_payAll_0 : decode c_Press_payAll 0 = .ok (.aload_n 0, 1) := by decide +kernel
theorem d_Press_payAll_1 : decode c_Press_payAll 1 = .ok (.iconst 0, 1) := by decide +kernel
theorem d_Press_payAll_2 : decode c_Press_payAll 2 = .ok (.putfield 118, 3) := by decide +kernel
theorem d_Press_payAll_5 : decode c_Press_payAll 5 = .ok (.aload_n 0, 1) := by decide +kernel
theorem d_Press_payAll_6 : decode c_Press_payAll 6 = .ok (.iconst 0, 1) := by decide +kernel
theorem d_Press_payAll_7 : decode c_Press_payAll 7 = .ok (.putfield 121, 3) := by decide +kernel
theorem d_Press_payAll_10 : decode c_Press_payAll 10 = .ok (.iconst 0, 1) := by decide +kernel
theorem d_Press_payAll_11 : decode c_Press_payAll 11 = .ok (.istore_n 2, 1) := by decide +kernel
theorem d_Press_payAll_12 : decode c_Press_payAll 12 = .ok (.iload_n 2, 1) := by decide +kernel
theorem d_Press_payAll_13 : decode c_Press_payAll 13 = .ok (.aload_n 0, 1) := by decide +kernel
theorem d_Press_payAll_14 : decode c_Press_payAll 14 = .ok (.getfield 21, 3) := by decide +kernel
theorem d_Press_payAll_17 : decode c_Press_payAll 17 = .ok (.getfield 25, 3) := by decide +kernel
theorem d_Press_payAll_20 : decode c_Press_payAll 20 = .ok (.if_icmp .ge 33, 3) := by decide +kernel
theorem d_Press_payAll_23 : decode c_Press_payAll 23 = .ok (.aload_n 1, 1) := by decide +kernel
theorem d_Press_payAll_24 : decode c_Press_payAll 24 = .ok (.getfield 30, 3) := by decide +kernel
theorem d_Press_payAll_27 : decode c_Press_payAll 27 = .ok (.iload_n 2, 1) := by decide +kernel
theorem d_Press_payAll_28 : decode c_Press_payAll 28 = .ok (.iaload, 1) := by decide +kernel
theorem d_Press_payAll_29 : decode c_Press_payAll 29 = .ok (.aload_n 0, 1) := by decide +kernel
theorem d_Press_payAll_30 : decode c_Press_payAll 30 = .ok (.getfield 21, 3) := by decide +kernel
theorem d_Press_payAll_33 : decode c_Press_payAll 33 = .ok (.getfield 36, 3) := by decide +kernel
theorem d_Press_payAll_36 : decode c_Press_payAll 36 = .ok (.iload_n 2, 1) := by decide +kernel
theorem d_Press_payAll_37 : decode c_Press_payAll 37 = .ok (.iaload, 1) := by decide +kernel
theorem d_Press_payAll_38 : decode c_Press_payAll 38 = .ok (.if_icmp .eq 9, 3) := by decide +kernel
theorem d_Press_payAll_41 : decode c_Press_payAll 41 = .ok (.aload_n 0, 1) := by decide +kernel
theorem d_Press_payAll_42 : decode c_Press_payAll 42 = .ok (.aload_n 1, 1) := by decide +kernel
theorem d_Press_payAll_43 : decode c_Press_payAll 43 = .ok (.iload_n 2, 1) := by decide +kernel
theorem d_Press_payAll_44 : decode c_Press_payAll 44 = .ok (.invokevirtual 124, 3) := by decide +kernel
theorem d_Press_payAll_47 : decode c_Press_payAll 47 = .ok (.iinc 2 1, 3) := by decide +kernel
theorem d_Press_payAll_50 : decode c_Press_payAll 50 = .ok (.goto (-38), 3) := by decide +kernel
theorem d_Press_payAll_53 : decode c_Press_payAll 53 = .ok (.return_, 1) := by decide +kernel
abbrev c_Press_payOne : ByteArray := prog_6_method_14_code
def y_Press_payOne : MethodName := ⟨RX4, "payOne", "(LErrataRow$State;I)V"⟩
theorem d_Press_payOne_0 : decode c_Press_payOne 0 = .ok (.aload_n 1, 1) := by decide +kernel
theorem d_Press_payOne_1 : decode c_Press_payOne 1 = .ok (.getfield 103, 3) := by decide +kernel
theorem d_Press_payOne_4 : decode c_Press_payOne 4 = .ok (.aload_n 0, 1) := by decide +kernel
theorem d_Press_payOne_5 : decode c_Press_payOne 5 = .ok (.getfield 21, 3) := by decide +kernel
theorem d_Press_payOne_8 : decode c_Press_payOne 8 = .ok (.getfield 127, 3) := by decide +kernel
theorem d_Press_payOne_11 : decode c_Press_payOne 11 = .ok (.if_icmp .lt 54, 3) := by decide +kernel
theorem d_Press_payOne_14 : decode c_Press_payOne 14 = .ok (.aload_n 1, 1) := by decide +kernel
theorem d_Press_payOne_15 : decode c_Press_payOne 15 = .ok (.dup, 1) := by decide +kernel
theorem d_Press_payOne_16 : decode c_Press_payOne 16 = .ok (.getfield 103, 3) := by decide +kernel
theorem d_Press_payOne_19 : decode c_Press_payOne 19 = .ok (.aload_n 0, 1) := by decide +kernel
theorem d_Press_payOne_20 : decode c_Press_payOne 20 = .ok (.getfield 21, 3) := by decide +kernel
theorem d_Press_payOne_23 : decode c_Press_payOne 23 = .ok (.getfield 127, 3) := by decide +kernel
theorem d_Press_payOne_26 : decode c_Press_payOne 26 = .ok (.isub, 1) := by decide +kernel
theorem d_Press_payOne_27 : decode c_Press_payOne 27 = .ok (.putfield 103, 3) := by decide +kernel
theorem d_Press_payOne_30 : decode c_Press_payOne 30 = .ok (.aload_n 1, 1) := by decide +kernel
theorem d_Press_payOne_31 : decode c_Press_payOne 31 = .ok (.getfield 115, 3) := by decide +kernel
theorem d_Press_payOne_34 : decode c_Press_payOne 34 = .ok (.iload_n 2, 1) := by decide +kernel
theorem d_Press_payOne_35 : decode c_Press_payOne 35 = .ok (.aload_n 1, 1) := by decide +kernel
theorem d_Press_payOne_36 : decode c_Press_payOne 36 = .ok (.getfield 115, 3) := by decide +kernel
theorem d_Press_payOne_39 : decode c_Press_payOne 39 = .ok (.iload_n 2, 1) := by decide +kernel
theorem d_Press_payOne_40 : decode c_Press_payOne 40 = .ok (.iaload, 1) := by decide +kernel
theorem d_Press_payOne_41 : decode c_Press_payOne 41 = .ok (.iconst 1, 1) := by decide +kernel
theorem d_Press_payOne_42 : decode c_Press_payOne 42 = .ok (.iadd, 1) := by decide +kernel
theorem d_Press_payOne_43 : decode c_Press_payOne 43 = .ok (.sipush 999, 3) := by decide +kernel
theorem d_Press_payOne_46 : decode c_Press_payOne 46 = .ok (.invokestatic 130, 3) := by decide +kernel
theorem d_Press_payOne_49 : decode c_Press_payOne 49 = .ok (.iastore, 1) := by decide +kernel
theorem d_Press_payOne_50 : decode c_Press_payOne 50 = .ok (.aload_n 0, 1) := by decide +kernel
theorem d_Press_payOne_51 : decode c_Press_payOne 51 = .ok (.dup, 1) := by decide +kernel
theorem d_Press_payOne_52 : decode c_Press_payOne 52 = .ok (.getfield 118, 3) := by decide +kernel
theorem d_Press_payOne_55 : decode c_Press_payOne 55 = .ok (.iconst 1, 1) := by decide +kernel
theorem d_Press_payOne_56 : decode c_Press_payOne 56 = .ok (.iload_n 2, 1) := by decide +kernel
theorem d_Press_payOne_57 : decode c_Press_payOne 57 = .ok (.ishl, 1) := by decide +kernel
theorem d_Press_payOne_58 : decode c_Press_payOne 58 = .ok (.ior, 1) := by decide +kernel
theorem d_Press_payOne_59 : decode c_Press_payOne 59 = .ok (.putfield 118, 3) := by decide +kernel
theorem d_Press_payOne_62 : decode c_Press_payOne 62 = .ok (.goto 31, 3) := by decide +kernel
theorem d_Press_payOne_65 : decode c_Press_payOne 65 = .ok (.aload_n 1, 1) := by decide +kernel
theorem d_Press_payOne_66 : decode c_Press_payOne 66 = .ok (.aload_n 1, 1) := by decide +kernel
theorem d_Press_payOne_67 : decode c_Press_payOne 67 = .ok (.getfield 106, 3) := by decide +kernel
theorem d_Press_payOne_70 : decode c_Press_payOne 70 = .ok (.iconst 1, 1) := by decide +kernel
theorem d_Press_payOne_71 : decode c_Press_payOne 71 = .ok (.iadd, 1) := by decide +kernel
theorem d_Press_payOne_72 : decode c_Press_payOne 72 = .ok (.sipush 999, 3) := by decide +kernel
theorem d_Press_payOne_75 : decode c_Press_payOne 75 = .ok (.invokestatic 130, 3) := by decide +kernel
theorem d_Press_payOne_78 : decode c_Press_payOne 78 = .ok (.putfield 106, 3) := by decide +kernel
theorem d_Press_payOne_81 : decode c_Press_payOne 81 = .ok (.aload_n 0, 1) := by decide +kernel
theorem d_Press_payOne_82 : decode c_Press_payOne 82 = .ok (.dup, 1) := by decide +kernel
theorem d_Press_payOne_83 : decode c_Press_payOne 83 = .ok (.getfield 121, 3) := by decide +kernel
theorem d_Press_payOne_86 : decode c_Press_payOne 86 = .ok (.iconst 1, 1) := by decide +kernel
theorem d_Press_payOne_87 : decode c_Press_payOne 87 = .ok (.iload_n 2, 1) := by decide +kernel
theorem d_Press_payOne_88 : decode c_Press_payOne 88 = .ok (.ishl, 1) := by decide +kernel
theorem d_Press_payOne_89 : decode c_Press_payOne 89 = .ok (.ior, 1) := by decide +kernel
theorem d_Press_payOne_90 : decode c_Press_payOne 90 = .ok (.putfield 121, 3) := by decide +kernel
theorem d_Press_payOne_93 : decode c_Press_payOne 93 = .ok (.return_, 1) := by decide +kernel
