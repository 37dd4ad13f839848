abbrev c12_slipsOne : ByteArray := prog_14_method_114_code
def y12_slipsOne : MethodName := ⟨RX12, "slipsOne", "()V"⟩
theorem d12_slipsOne_0 : decode c12_slipsOne 0 = .ok (.aload_n 0, 1) := by decide +kernel
theorem d12_slipsOne_1 : decode c12_slipsOne 1 = .ok (.aload_n 0, 1) := by decide +kernel
theorem d12_slipsOne_2 : decode c12_slipsOne 2 = .ok (.getfield 39, 3) := by decide +kernel
theorem d12_slipsOne_5 : decode c12_slipsOne 5 = .ok (.iconst 3, 1) := by decide +kernel
theorem d12_slipsOne_6 : decode c12_slipsOne 6 = .ok (.iaload, 1) := by decide +kernel
theorem d12_slipsOne_7 : decode c12_slipsOne 7 = .ok (.invokevirtual 463, 3) := by decide +kernel
theorem d12_slipsOne_10 : decode c12_slipsOne 10 = .ok (.istore_n 1, 1) := by decide +kernel
theorem d12_slipsOne_11 : decode c12_slipsOne 11 = .ok (.aload_n 0, 1) := by decide +kernel
theorem d12_slipsOne_12 : decode c12_slipsOne 12 = .ok (.getfield 39, 3) := by decide +kernel
theorem d12_slipsOne_15 : decode c12_slipsOne 15 = .ok (.bipush 13, 2) := by decide +kernel
theorem d12_slipsOne_17 : decode c12_slipsOne 17 = .ok (.iload_n 1, 1) := by decide +kernel
theorem d12_slipsOne_18 : decode c12_slipsOne 18 = .ok (.iadd, 1) := by decide +kernel
theorem d12_slipsOne_19 : decode c12_slipsOne 19 = .ok (.aload_n 0, 1) := by decide +kernel
theorem d12_slipsOne_20 : decode c12_slipsOne 20 = .ok (.bipush 8, 2) := by decide +kernel
theorem d12_slipsOne_22 : decode c12_slipsOne 22 = .ok (.invokevirtual 463, 3) := by decide +kernel
theorem d12_slipsOne_25 : decode c12_slipsOne 25 = .ok (.iastore, 1) := by decide +kernel
theorem d12_slipsOne_26 : decode c12_slipsOne 26 = .ok (.return_, 1) := by decide +kernel
abbrev c12_slips : ByteArray := prog_14_method_115_code
def y12_slips : MethodName := ⟨RX12, "slips", "(IIII)I"⟩
theorem d12_slips_0 : decode c12_slips 0 = .ok (.aload_n 0, 1) := by decide +kernel
theorem d12_slips_1 : decode c12_slips 1 = .ok (.invokevirtual 293, 3) := by decide +kernel
theorem d12_slips_4 : decode c12_slips 4 = .ok (.ifCond .eq 50, 3) := by decide +kernel
theorem d12_slips_7 : decode c12_slips 7 = .ok (.iload_n 1, 1) := by decide +kernel
theorem d12_slips_8 : decode c12_slips 8 = .ok (.i2l, 1) := by decide +kernel
theorem d12_slips_9 : decode c12_slips 9 = .ok (.lconst 1, 1) := by decide +kernel
theorem d12_slips_10 : decode c12_slips 10 = .ok (.ldc2_w 404, 3) := by decide +kernel
theorem d12_slips_13 : decode c12_slips 13 = .ok (.invokestatic 127, 3) := by decide +kernel
theorem d12_slips_16 : decode c12_slips 16 = .ok (.ifCond .eq 38, 3) := by decide +kernel
theorem d12_slips_19 : decode c12_slips 19 = .ok (.iload_n 2, 1) := by decide +kernel
theorem d12_slips_20 : decode c12_slips 20 = .ok (.i2l, 1) := by decide +kernel
theorem d12_slips_21 : decode c12_slips 21 = .ok (.lconst 1, 1) := by decide +kernel
theorem d12_slips_22 : decode c12_slips 22 = .ok (.ldc2_w 434, 3) := by decide +kernel
theorem d12_slips_25 : decode c12_slips 25 = .ok (.invokestatic 127, 3) := by decide +kernel
theorem d12_slips_28 : decode c12_slips 28 = .ok (.ifCond .eq 26, 3) := by decide +kernel
theorem d12_slips_31 : decode c12_slips 31 = .ok (.iload_n 3, 1) := by decide +kernel
theorem d12_slips_32 : decode c12_slips 32 = .ok (.i2l, 1) := by decide +kernel
theorem d12_slips_33 : decode c12_slips 33 = .ok (.lconst 0, 1) := by decide +kernel
theorem d12_slips_34 : decode c12_slips 34 = .ok (.ldc2_w 368, 3) := by decide +kernel
theorem d12_slips_37 : decode c12_slips 37 = .ok (.invokestatic 127, 3) := by decide +kernel
theorem d12_slips_40 : decode c12_slips 40 = .ok (.ifCond .eq 14, 3) := by decide +kernel
theorem d12_slips_43 : decode c12_slips 43 = .ok (.iload 4, 2) := by decide +kernel
theorem d12_slips_45 : decode c12_slips 45 = .ok (.i2l, 1) := by decide +kernel
theorem d12_slips_46 : decode c12_slips 46 = .ok (.lconst 0, 1) := by decide +kernel
theorem d12_slips_47 : decode c12_slips 47 = .ok (.lconst 1, 1) := by decide +kernel
theorem d12_slips_48 : decode c12_slips 48 = .ok (.invokestatic 127, 3) := by decide +kernel
theorem d12_slips_51 : decode c12_slips 51 = .ok (.ifCond .ne 5, 3) := by decide +kernel
theorem d12_slips_54 : decode c12_slips 54 = .ok (.iconst (-1), 1) := by decide +kernel
theorem d12_slips_55 : decode c12_slips 55 = .ok (.ireturn, 1) := by decide +kernel
theorem d12_slips_56 : decode c12_slips 56 = .ok (.aload_n 0, 1) := by decide +kernel
theorem d12_slips_57 : decode c12_slips 57 = .ok (.aload_n 0, 1) := by decide +kernel
theorem d12_slips_58 : decode c12_slips 58 = .ok (.getfield 448, 3) := by decide +kernel
theorem d12_slips_61 : decode c12_slips 61 = .ok (.i2l, 1) := by decide +kernel
theorem d12_slips_62 : decode c12_slips 62 = .ok (.putfield 451, 3) := by decide +kernel
theorem d12_slips_65 : decode c12_slips 65 = .ok (.iconst 0, 1) := by decide +kernel
theorem d12_slips_66 : decode c12_slips 66 = .ok (.istore 5, 2) := by decide +kernel
theorem d12_slips_68 : decode c12_slips 68 = .ok (.iconst 0, 1) := by decide +kernel
theorem d12_slips_69 : decode c12_slips 69 = .ok (.istore 6, 2) := by decide +kernel
theorem d12_slips_71 : decode c12_slips 71 = .ok (.aload_n 0, 1) := by decide +kernel
theorem d12_slips_72 : decode c12_slips 72 = .ok (.invokevirtual 372, 3) := by decide +kernel
theorem d12_slips_75 : decode c12_slips 75 = .ok (.iconst 0, 1) := by decide +kernel
theorem d12_slips_76 : decode c12_slips 76 = .ok (.istore 7, 2) := by decide +kernel
theorem d12_slips_78 : decode c12_slips 78 = .ok (.iload 7, 2) := by decide +kernel
theorem d12_slips_80 : decode c12_slips 80 = .ok (.iload_n 1, 1) := by decide +kernel
theorem d12_slips_81 : decode c12_slips 81 = .ok (.if_icmp .ge 80, 3) := by decide +kernel
theorem d12_slips_84 : decode c12_slips 84 = .ok (.iconst 0, 1) := by decide +kernel
theorem d12_slips_85 : decode c12_slips 85 = .ok (.istore 8, 2) := by decide +kernel
theorem d12_slips_87 : decode c12_slips 87 = .ok (.iload 8, 2) := by decide +kernel
theorem d12_slips_89 : decode c12_slips 89 = .ok (.iload_n 2, 1) := by decide +kernel
theorem d12_slips_90 : decode c12_slips 90 = .ok (.if_icmp .ge 37, 3) := by decide +kernel
theorem d12_slips_93 : decode c12_slips 93 = .ok (.aload_n 0, 1) := by decide +kernel
theorem d12_slips_94 : decode c12_slips 94 = .ok (.bipush 100, 2) := by decide +kernel
theorem d12_slips_96 : decode c12_slips 96 = .ok (.invokevirtual 463, 3) := by decide +kernel
theorem d12_slips_99 : decode c12_slips 99 = .ok (.iload_n 3, 1) := by decide +kernel
theorem d12_slips_100 : decode c12_slips 100 = .ok (.if_icmp .ge 16, 3) := by decide +kernel
theorem d12_slips_103 : decode c12_slips 103 = .ok (.aload_n 0, 1) := by decide +kernel
theorem d12_slips_104 : decode c12_slips 104 = .ok (.getfield 39, 3) := by decide +kernel
theorem d12_slips_107 : decode c12_slips 107 = .ok (.iconst 3, 1) := by decide +kernel
theorem d12_slips_108 : decode c12_slips 108 = .ok (.iaload, 1) := by decide +kernel
theorem d12_slips_109 : decode c12_slips 109 = .ok (.ifCond .le 7, 3) := by decide +kernel
theorem d12_slips_112 : decode c12_slips 112 = .ok (.aload_n 0, 1) := by decide +kernel
theorem d12_slips_113 : decode c12_slips 113 = .ok (.invokevirtual 466, 3) := by decide +kernel
theorem d12_slips_116 : decode c12_slips 116 = .ok (.aload_n 0, 1) := by decide +kernel
theorem d12_slips_117 : decode c12_slips 117 = .ok (.invokevirtual 358, 3) := by decide +kernel
theorem d12_slips_120 : decode c12_slips 120 = .ok (.pop, 1) := by decide +kernel
theorem d12_slips_121 : decode c12_slips 121 = .ok (.iinc 8 1, 3) := by decide +kernel
theorem d12_slips_124 : decode c12_slips 124 = .ok (.goto (-37), 3) := by decide +kernel
theorem d12_slips_127 : decode c12_slips 127 = .ok (.iload 5, 2) := by decide +kernel
theorem d12_slips_129 : decode c12_slips 129 = .ok (.aload_n 0, 1) := by decide +kernel
theorem d12_slips_130 : decode c12_slips 130 = .ok (.invokevirtual 302, 3) := by decide +kernel
theorem d12_slips_133 : decode c12_slips 133 = .ok (.invokestatic 324, 3) := by decide +kernel
theorem d12_slips_136 : decode c12_slips 136 = .ok (.iadd, 1) := by decide +kernel
theorem d12_slips_137 : decode c12_slips 137 = .ok (.istore 5, 2) := by decide +kernel
theorem d12_slips_139 : decode c12_slips 139 = .ok (.iload 6, 2) := by decide +kernel
theorem d12_slips_141 : decode c12_slips 141 = .ok (.aload_n 0, 1) := by decide +kernel
theorem d12_slips_142 : decode c12_slips 142 = .ok (.getfield 39, 3) := by decide +kernel
theorem d12_slips_145 : decode c12_slips 145 = .ok (.bipush 12, 2) := by decide +kernel
theorem d12_slips_147 : decode c12_slips 147 = .ok (.iaload, 1) := by decide +kernel
theorem d12_slips_148 : decode c12_slips 148 = .ok (.iadd, 1) := by decide +kernel
theorem d12_slips_149 : decode c12_slips 149 = .ok (.istore 6, 2) := by decide +kernel
theorem d12_slips_151 : decode c12_slips 151 = .ok (.aload_n 0, 1) := by decide +kernel
theorem d12_slips_152 : decode c12_slips 152 = .ok (.invokevirtual 378, 3) := by decide +kernel
theorem d12_slips_155 : decode c12_slips 155 = .ok (.iinc 7 1, 3) := by decide +kernel
theorem d12_slips_158 : decode c12_slips 158 = .ok (.goto (-80), 3) := by decide +kernel
theorem d12_slips_161 : decode c12_slips 161 = .ok (.iload 4, 2) := by decide +kernel
theorem d12_slips_163 : decode c12_slips 163 = .ok (.ifCond .ne 8, 3) := by decide +kernel
theorem d12_slips_166 : decode c12_slips 166 = .ok (.iload 5, 2) := by decide +kernel
theorem d12_slips_168 : decode c12_slips 168 = .ok (.goto 5, 3) := by decide +kernel
theorem d12_slips_171 : decode c12_slips 171 = .ok (.iload 6, 2) := by decide +kernel
theorem d12_slips_173 : decode c12_slips 173 = .ok (.ireturn, 1) := by decide +kernel
abbrev c12_count : ByteArray := prog_14_method_116_code
def y12_count : MethodName := ⟨RX12, "count", "(I)I"⟩
theorem d12_count_0 : decode c12_count 0 = .ok (.iload_n 1, 1) := by decide +kernel
theorem d12_count_1 : decode c12_count 1 = .ok (.tableswitch 158 0 13 #[71, 78, 83, 90, 95, 100, 108, 113, 118, 126, 134, 143, 148, 153], 71) := by decide +kernel
theorem d12_count_72 : decode c12_count 72 = .ok (.aload_n 0, 1) := by decide +kernel
theorem d12_count_73 : decode c12_count 73 = .ok (.getfield 39, 3) := by decide +kernel
theorem d12_count_76 : decode c12_count 76 = .ok (.iconst 1, 1) := by decide +kernel
theorem d12_count_77 : decode c12_count 77 = .ok (.iaload, 1) := by decide +kernel
theorem d12_count_78 : decode c12_count 78 = .ok (.ireturn, 1) := by decide +kernel
theorem d12_count_79 : decode c12_count 79 = .ok (.aload_n 0, 1) := by decide +kernel
theorem d12_count_80 : decode c12_count 80 = .ok (.invokevirtual 308, 3) := by decide +kernel
theorem d12_count_83 : decode c12_count 83 = .ok (.ireturn, 1) := by decide +kernel
theorem d12_count_84 : decode c12_count 84 = .ok (.aload_n 0, 1) := by decide +kernel
theorem d12_count_85 : decode c12_count 85 = .ok (.getfield 39, 3) := by decide +kernel
theorem d12_count_88 : decode c12_count 88 = .ok (.iconst 3, 1) := by decide +kernel
theorem d12_count_89 : decode c12_count 89 = .ok (.iaload, 1) := by decide +kernel
theorem d12_count_90 : decode c12_count 90 = .ok (.ireturn, 1) := by decide +kernel
theorem d12_count_91 : decode c12_count 91 = .ok (.aload_n 0, 1) := by decide +kernel
theorem d12_count_92 : decode c12_count 92 = .ok (.getfield 266, 3) := by decide +kernel
theorem d12_count_95 : decode c12_count 95 = .ok (.ireturn, 1) := by decide +kernel
theorem d12_count_96 : decode c12_count 96 = .ok (.aload_n 0, 1) := by decide +kernel
theorem d12_count_97 : decode c12_count 97 = .ok (.getfield 42, 3) := by decide +kernel
theorem d12_count_100 : decode c12_count 100 = .ok (.ireturn, 1) := by decide +kernel
theorem d12_count_101 : decode c12_count 101 = .ok (.aload_n 0, 1) := by decide +kernel
theorem d12_count_102 : decode c12_count 102 = .ok (.getfield 39, 3) := by decide +kernel
theorem d12_count_105 : decode c12_count 105 = .ok (.bipush 10, 2) := by decide +kernel
theorem d12_count_107 : decode c12_count 107 = .ok (.iaload, 1) := by decide +kernel
theorem d12_count_108 : decode c12_count 108 = .ok (.ireturn, 1) := by decide +kernel
theorem d12_count_109 : decode c12_count 109 = .ok (.aload_n 0, 1) := by decide +kernel
theorem d12_count_110 : decode c12_count 110 = .ok (.invokevirtual 302, 3) := by decide +kernel
theorem d12_count_113 : decode c12_count 113 = .ok (.ireturn, 1) := by decide +kernel
theorem d12_count_114 : decode c12_count 114 = .ok (.aload_n 0, 1) := by decide +kernel
theorem d12_count_115 : decode c12_count 115 = .ok (.invokevirtual 321, 3) := by decide +kernel
theorem d12_count_118 : decode c12_count 118 = .ok (.ireturn, 1) := by decide +kernel
theorem d12_count_119 : decode c12_count 119 = .ok (.aload_n 0, 1) := by decide +kernel
theorem d12_count_120 : decode c12_count 120 = .ok (.getfield 39, 3) := by decide +kernel
theorem d12_count_123 : decode c12_count 123 = .ok (.bipush 11, 2) := by decide +kernel
theorem d12_count_125 : decode c12_count 125 = .ok (.iaload, 1) := by decide +kernel
theorem d12_count_126 : decode c12_count 126 = .ok (.ireturn, 1) := by decide +kernel
theorem d12_count_127 : decode c12_count 127 = .ok (.aload_n 0, 1) := by decide +kernel
theorem d12_count_128 : decode c12_count 128 = .ok (.getfield 39, 3) := by decide +kernel
theorem d12_count_131 : decode c12_count 131 = .ok (.bipush 12, 2) := by decide +kernel
theorem d12_count_133 : decode c12_count 133 = .ok (.iaload, 1) := by decide +kernel
theorem d12_count_134 : decode c12_count 134 = .ok (.ireturn, 1) := by decide +kernel
theorem d12_count_135 : decode c12_count 135 = .ok (.aload_n 0, 1) := by decide +kernel
theorem d12_count_136 : decode c12_count 136 = .ok (.getfield 39, 3) := by decide +kernel
theorem d12_count_139 : decode c12_count 139 = .ok (.sipush 128, 3) := by decide +kernel
theorem d12_count_142 : decode c12_count 142 = .ok (.iaload, 1) := by decide +kernel
theorem d12_count_143 : decode c12_count 143 = .ok (.ireturn, 1) := by decide +kernel
theorem d12_count_144 : decode c12_count 144 = .ok (.aload_n 0, 1) := by decide +kernel
theorem d12_count_145 : decode c12_count 145 = .ok (.getfield 275, 3) := by decide +kernel
theorem d12_count_148 : decode c12_count 148 = .ok (.ireturn, 1) := by decide +kernel
theorem d12_count_149 : decode c12_count 149 = .ok (.aload_n 0, 1) := by decide +kernel
theorem d12_count_150 : decode c12_count 150 = .ok (.getfield 448, 3) := by decide +kernel
theorem d12_count_153 : decode c12_count 153 = .ok (.ireturn, 1) := by decide +kernel
theorem d12_count_154 : decode c12_count 154 = .ok (.aload_n 0, 1) := by decide +kernel
theorem d12_count_155 : decode c12_count 155 = .ok (.getfield 89, 3) := by decide +kernel
theorem d12_count_158 : decode c12_count 158 = .ok (.ireturn, 1) := by decide +kernel
theorem d12_count_159 : decode c12_count 159 = .ok (.iconst (-1), 1) := by decide +kernel
theorem d12_count_160 : decode c12_count 160 = .ok (.ireturn, 1) := by decide +kernel
abbrev c12_image : ByteArray := prog_14_method_117_code
def y12_image : MethodName := ⟨RX12, "image", "(I)I"⟩
theorem d12_image_0 : decode c12_image 0 = .ok (.iload_n 1, 1) := by decide +kernel
theorem d12_image_1 : decode c12_image 1 = .ok (.i2l, 1) := by decide +kernel
theorem d12_image_2 : decode c12_image 2 = .ok (.lconst 0, 1) := by decide +kernel
theorem d12_image_3 : decode c12_image 3 = .ok (.ldc2_w 370, 3) := by decide +kernel
theorem d12_image_6 : decode c12_image 6 = .ok (.invokestatic 127, 3) := by decide +kernel
theorem d12_image_9 : decode c12_image 9 = .ok (.ifCond .ne 5, 3) := by decide +kernel
theorem d12_image_12 : decode c12_image 12 = .ok (.iconst (-1), 1) := by decide +kernel
theorem d12_image_13 : decode c12_image 13 = .ok (.ireturn, 1) := by decide +kernel
theorem d12_image_14 : decode c12_image 14 = .ok (.aload_n 0, 1) := by decide +kernel
theorem d12_image_15 : decode c12_image 15 = .ok (.getfield 86, 3) := by decide +kernel
theorem d12_image_18 : decode c12_image 18 = .ok (.iload_n 1, 1) := by decide +kernel
theorem d12_image_19 : decode c12_image 19 = .ok (.iconst 1, 1) := by decide +kernel
theorem d12_image_20 : decode c12_image 20 = .ok (.bastore, 1) := by decide +kernel
theorem d12_image_21 : decode c12_image 21 = .ok (.aload_n 0, 1) := by decide +kernel
theorem d12_image_22 : decode c12_image 22 = .ok (.getfield 80, 3) := by decide +kernel
theorem d12_image_25 : decode c12_image 25 = .ok (.iload_n 1, 1) := by decide +kernel
theorem d12_image_26 : decode c12_image 26 = .ok (.aload_n 0, 1) := by decide +kernel
theorem d12_image_27 : decode c12_image 27 = .ok (.getfield 42, 3) := by decide +kernel
theorem d12_image_30 : decode c12_image 30 = .ok (.iastore, 1) := by decide +kernel
theorem d12_image_31 : decode c12_image 31 = .ok (.aload_n 0, 1) := by decide +kernel
theorem d12_image_32 : decode c12_image 32 = .ok (.getfield 83, 3) := by decide +kernel
theorem d12_image_35 : decode c12_image 35 = .ok (.iload_n 1, 1) := by decide +kernel
theorem d12_image_36 : decode c12_image 36 = .ok (.aload_n 0, 1) := by decide +kernel
theorem d12_image_37 : decode c12_image 37 = .ok (.getfield 448, 3) := by decide +kernel
theorem d12_image_40 : decode c12_image 40 = .ok (.iastore, 1) := by decide +kernel
theorem d12_image_41 : decode c12_image 41 = .ok (.iconst 0, 1) := by decide +kernel
theorem d12_image_42 : decode c12_image 42 = .ok (.istore_n 2, 1) := by decide +kernel
theorem d12_image_43 : decode c12_image 43 = .ok (.iload_n 2, 1) := by decide +kernel
theorem d12_image_44 : decode c12_image 44 = .ok (.sipush 129, 3) := by decide +kernel
theorem d12_image_47 : decode c12_image 47 = .ok (.if_icmp .ge 27, 3) := by decide +kernel
theorem d12_image_50 : decode c12_image 50 = .ok (.aload_n 0, 1) := by decide +kernel
theorem d12_image_51 : decode c12_image 51 = .ok (.getfield 77, 3) := by decide +kernel
theorem d12_image_54 : decode c12_image 54 = .ok (.sipush 129, 3) := by decide +kernel
theorem d12_image_57 : decode c12_image 57 = .ok (.iload_n 1, 1) := by decide +kernel
theorem d12_image_58 : decode c12_image 58 = .ok (.imul, 1) := by decide +kernel
theorem d12_image_59 : decode c12_image 59 = .ok (.iload_n 2, 1) := by decide +kernel
theorem d12_image_60 : decode c12_image 60 = .ok (.iadd, 1) := by decide +kernel
theorem d12_image_61 : decode c12_image 61 = .ok (.aload_n 0, 1) := by decide +kernel
theorem d12_image_62 : decode c12_image 62 = .ok (.getfield 39, 3) := by decide +kernel
theorem d12_image_65 : decode c12_image 65 = .ok (.iload_n 2, 1) := by decide +kernel
theorem d12_image_66 : decode c12_image 66 = .ok (.iaload, 1) := by decide +kernel
theorem d12_image_67 : decode c12_image 67 = .ok (.iastore, 1) := by decide +kernel
theorem d12_image_68 : decode c12_image 68 = .ok (.iinc 2 1, 3) := by decide +kernel
theorem d12_image_71 : decode c12_image 71 = .ok (.goto (-28), 3) := by decide +kernel
theorem d12_image_74 : decode c12_image 74 = .ok (.aload_n 0, 1) := by decide +kernel
theorem d12_image_75 : decode c12_image 75 = .ok (.getfield 39, 3) := by decide +kernel
theorem d12_image_78 : decode c12_image 78 = .ok (.bipush 10, 2) := by decide +kernel
theorem d12_image_80 : decode c12_image 80 = .ok (.iaload, 1) := by decide +kernel
theorem d12_image_81 : decode c12_image 81 = .ok (.ireturn, 1) := by decide +kernel
abbrev c12_back : ByteArray := prog_14_method_118_code
def y12_back : MethodName := ⟨RX12, "back", "(I)I"⟩
theorem d12_back_0 : decode c12_back 0 = .ok (.iload_n 1, 1) := by decide +kernel
theorem d12_back_1 : decode c12_back 1 = .ok (.i2l, 1) := by decide +kernel
theorem d12_back_2 : decode c12_back 2 = .ok (.lconst 0, 1) := by decide +kernel
theorem d12_back_3 : decode c12_back 3 = .ok (.ldc2_w 370, 3) := by decide +kernel
theorem d12_back_6 : decode c12_back 6 = .ok (.invokestatic 127, 3) := by decide +kernel
theorem d12_back_9 : decode c12_back 9 = .ok (.ifCond .eq 12, 3) := by decide +kernel
theorem d12_back_12 : decode c12_back 12 = .ok (.aload_n 0, 1) := by decide +kernel
theorem d12_back_13 : decode c12_back 13 = .ok (.getfield 86, 3) := by decide +kernel
theorem d12_back_16 : decode c12_back 16 = .ok (.iload_n 1, 1) := by decide +kernel
theorem d12_back_17 : decode c12_back 17 = .ok (.baload, 1) := by decide +kernel
theorem d12_back_18 : decode c12_back 18 = .ok (.ifCond .ne 5, 3) := by decide +kernel
theorem d12_back_21 : decode c12_back 21 = .ok (.iconst (-1), 1) := by decide +kernel
theorem d12_back_22 : decode c12_back 22 = .ok (.ireturn, 1) := by decide +kernel
theorem d12_back_23 : decode c12_back 23 = .ok (.aload_n 0, 1) := by decide +kernel
theorem d12_back_24 : decode c12_back 24 = .ok (.aload_n 0, 1) := by decide +kernel
theorem d12_back_25 : decode c12_back 25 = .ok (.getfield 80, 3) := by decide +kernel
theorem d12_back_28 : decode c12_back 28 = .ok (.iload_n 1, 1) := by decide +kernel
theorem d12_back_29 : decode c12_back 29 = .ok (.iaload, 1) := by decide +kernel
theorem d12_back_30 : decode c12_back 30 = .ok (.putfield 42, 3) := by decide +kernel
theorem d12_back_33 : decode c12_back 33 = .ok (.aload_n 0, 1) := by decide +kernel
theorem d12_back_34 : decode c12_back 34 = .ok (.aload_n 0, 1) := by decide +kernel
theorem d12_back_35 : decode c12_back 35 = .ok (.getfield 83, 3) := by decide +kernel
theorem d12_back_38 : decode c12_back 38 = .ok (.iload_n 1, 1) := by decide +kernel
theorem d12_back_39 : decode c12_back 39 = .ok (.iaload, 1) := by decide +kernel
theorem d12_back_40 : decode c12_back 40 = .ok (.putfield 448, 3) := by decide +kernel
theorem d12_back_43 : decode c12_back 43 = .ok (.aload_n 0, 1) := by decide +kernel
theorem d12_back_44 : decode c12_back 44 = .ok (.iconst 0, 1) := by decide +kernel
theorem d12_back_45 : decode c12_back 45 = .ok (.putfield 275, 3) := by decide +kernel
theorem d12_back_48 : decode c12_back 48 = .ok (.iconst 0, 1) := by decide +kernel
theorem d12_back_49 : decode c12_back 49 = .ok (.istore_n 2, 1) := by decide +kernel
theorem d12_back_50 : decode c12_back 50 = .ok (.iload_n 2, 1) := by decide +kernel
theorem d12_back_51 : decode c12_back 51 = .ok (.sipush 129, 3) := by decide +kernel
theorem d12_back_54 : decode c12_back 54 = .ok (.if_icmp .ge 27, 3) := by decide +kernel
theorem d12_back_57 : decode c12_back 57 = .ok (.aload_n 0, 1) := by decide +kernel
theorem d12_back_58 : decode c12_back 58 = .ok (.getfield 39, 3) := by decide +kernel
theorem d12_back_61 : decode c12_back 61 = .ok (.iload_n 2, 1) := by decide +kernel
theorem d12_back_62 : decode c12_back 62 = .ok (.aload_n 0, 1) := by decide +kernel
theorem d12_back_63 : decode c12_back 63 = .ok (.getfield 77, 3) := by decide +kernel
theorem d12_back_66 : decode c12_back 66 = .ok (.sipush 129, 3) := by decide +kernel
theorem d12_back_69 : decode c12_back 69 = .ok (.iload_n 1, 1) := by decide +kernel
theorem d12_back_70 : decode c12_back 70 = .ok (.imul, 1) := by decide +kernel
theorem d12_back_71 : decode c12_back 71 = .ok (.iload_n 2, 1) := by decide +kernel
theorem d12_back_72 : decode c12_back 72 = .ok (.iadd, 1) := by decide +kernel
theorem d12_back_73 : decode c12_back 73 = .ok (.iaload, 1) := by decide +kernel
theorem d12_back_74 : decode c12_back 74 = .ok (.iastore, 1) := by decide +kernel
theorem d12_back_75 : decode c12_back 75 = .ok (.iinc 2 1, 3) := by decide +kernel
theorem d12_back_78 : decode c12_back 78 = .ok (.goto (-28), 3) := by decide +kernel
theorem d12_back_81 : decode c12_back 81 = .ok (.aload_n 0, 1) := by decide +kernel
theorem d12_back_82 : decode c12_back 82 = .ok (.getfield 39, 3) := by decide +kernel
theorem d12_back_85 : decode c12_back 85 = .ok (.bipush 10, 2) := by decide +kernel
theorem d12_back_87 : decode c12_back 87 = .ok (.iaload, 1) := by decide +kernel
theorem d12_back_88 : decode c12_back 88 = .ok (.ireturn, 1) := by decide +kernel
