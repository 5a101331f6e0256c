theorem d_MO_init_0 : decode c_MO_init 0 = .ok (.aload_n 0, 1) := by decide +kernel
theorem d_MO_init_1 : decode c_MO_init 1 = .ok (.invokespecial 1, 3) := by decide +kernel
theorem d_MO_init_4 : decode c_MO_init 4 = .ok (.aload_n 0, 1) := by decide +kernel
theorem d_MO_init_5 : decode c_MO_init 5 = .ok (.bipush 10, 2) := by decide +kernel
theorem d_MO_init_7 : decode c_MO_init 7 = .ok (.newarray .int, 2) := by decide +kernel
theorem d_MO_init_9 : decode c_MO_init 9 = .ok (.putfield 7, 3) := by decide +kernel
theorem d_MO_init_12 : decode c_MO_init 12 = .ok (.aload_n 0, 1) := by decide +kernel
theorem d_MO_init_13 : decode c_MO_init 13 = .ok (.sipush 576, 3) := by decide +kernel
theorem d_MO_init_16 : decode c_MO_init 16 = .ok (.newarray .int, 2) := by decide +kernel
theorem d_MO_init_18 : decode c_MO_init 18 = .ok (.putfield 13, 3) := by decide +kernel
theorem d_MO_init_21 : decode c_MO_init 21 = .ok (.aload_n 0, 1) := by decide +kernel
theorem d_MO_init_22 : decode c_MO_init 22 = .ok (.sipush 576, 3) := by decide +kernel
theorem d_MO_init_25 : decode c_MO_init 25 = .ok (.newarray .int, 2) := by decide +kernel
theorem d_MO_init_27 : decode c_MO_init 27 = .ok (.putfield 16, 3) := by decide +kernel
theorem d_MO_init_30 : decode c_MO_init 30 = .ok (.aload_n 0, 1) := by decide +kernel
theorem d_MO_init_31 : decode c_MO_init 31 = .ok (.sipush 576, 3) := by decide +kernel
theorem d_MO_init_34 : decode c_MO_init 34 = .ok (.newarray .int, 2) := by decide +kernel
theorem d_MO_init_36 : decode c_MO_init 36 = .ok (.putfield 19, 3) := by decide +kernel
theorem d_MO_init_39 : decode c_MO_init 39 = .ok (.aload_n 0, 1) := by decide +kernel
theorem d_MO_init_40 : decode c_MO_init 40 = .ok (.sipush 576, 3) := by decide +kernel
theorem d_MO_init_43 : decode c_MO_init 43 = .ok (.newarray .int, 2) := by decide +kernel
theorem d_MO_init_45 : decode c_MO_init 45 = .ok (.putfield 22, 3) := by decide +kernel
theorem d_MO_init_48 : decode c_MO_init 48 = .ok (.aload_n 0, 1) := by decide +kernel
theorem d_MO_init_49 : decode c_MO_init 49 = .ok (.sipush 576, 3) := by decide +kernel
theorem d_MO_init_52 : decode c_MO_init 52 = .ok (.newarray .int, 2) := by decide +kernel
theorem d_MO_init_54 : decode c_MO_init 54 = .ok (.putfield 25, 3) := by decide +kernel
theorem d_MO_init_57 : decode c_MO_init 57 = .ok (.aload_n 0, 1) := by decide +kernel
theorem d_MO_init_58 : decode c_MO_init 58 = .ok (.sipush 576, 3) := by decide +kernel
theorem d_MO_init_61 : decode c_MO_init 61 = .ok (.newarray .int, 2) := by decide +kernel
theorem d_MO_init_63 : decode c_MO_init 63 = .ok (.putfield 28, 3) := by decide +kernel
theorem d_MO_init_66 : decode c_MO_init 66 = .ok (.aload_n 0, 1) := by decide +kernel
theorem d_MO_init_67 : decode c_MO_init 67 = .ok (.sipush 576, 3) := by decide +kernel
theorem d_MO_init_70 : decode c_MO_init 70 = .ok (.newarray .long, 2) := by decide +kernel
theorem d_MO_init_72 : decode c_MO_init 72 = .ok (.putfield 31, 3) := by decide +kernel
theorem d_MO_init_75 : decode c_MO_init 75 = .ok (.aload_n 0, 1) := by decide +kernel
theorem d_MO_init_76 : decode c_MO_init 76 = .ok (.sipush 8400, 3) := by decide +kernel
theorem d_MO_init_79 : decode c_MO_init 79 = .ok (.newarray .char, 2) := by decide +kernel
theorem d_MO_init_81 : decode c_MO_init 81 = .ok (.putfield 35, 3) := by decide +kernel
theorem d_MO_init_84 : decode c_MO_init 84 = .ok (.aload_n 0, 1) := by decide +kernel
theorem d_MO_init_85 : decode c_MO_init 85 = .ok (.sipush 160, 3) := by decide +kernel
theorem d_MO_init_88 : decode c_MO_init 88 = .ok (.newarray .char, 2) := by decide +kernel
theorem d_MO_init_90 : decode c_MO_init 90 = .ok (.putfield 39, 3) := by decide +kernel
theorem d_MO_init_93 : decode c_MO_init 93 = .ok (.aload_n 0, 1) := by decide +kernel
theorem d_MO_init_94 : decode c_MO_init 94 = .ok (.bipush 12, 2) := by decide +kernel
theorem d_MO_init_96 : decode c_MO_init 96 = .ok (.newarray .int, 2) := by decide +kernel
theorem d_MO_init_98 : decode c_MO_init 98 = .ok (.putfield 42, 3) := by decide +kernel
theorem d_MO_init_101 : decode c_MO_init 101 = .ok (.aload_n 0, 1) := by decide +kernel
theorem d_MO_init_102 : decode c_MO_init 102 = .ok (.sipush 160, 3) := by decide +kernel
theorem d_MO_init_105 : decode c_MO_init 105 = .ok (.newarray .char, 2) := by decide +kernel
theorem d_MO_init_107 : decode c_MO_init 107 = .ok (.putfield 45, 3) := by decide +kernel
theorem d_MO_init_110 : decode c_MO_init 110 = .ok (.aload_n 0, 1) := by decide +kernel
theorem d_MO_init_111 : decode c_MO_init 111 = .ok (.bipush 40, 2) := by decide +kernel
theorem d_MO_init_113 : decode c_MO_init 113 = .ok (.newarray .int, 2) := by decide +kernel
theorem d_MO_init_115 : decode c_MO_init 115 = .ok (.putfield 48, 3) := by decide +kernel
theorem d_MO_init_118 : decode c_MO_init 118 = .ok (.aload_n 0, 1) := by decide +kernel
theorem d_MO_init_119 : decode c_MO_init 119 = .ok (.bipush 40, 2) := by decide +kernel
theorem d_MO_init_121 : decode c_MO_init 121 = .ok (.newarray .int, 2) := by decide +kernel
theorem d_MO_init_123 : decode c_MO_init 123 = .ok (.putfield 51, 3) := by decide +kernel
theorem d_MO_init_126 : decode c_MO_init 126 = .ok (.aload_n 0, 1) := by decide +kernel
theorem d_MO_init_127 : decode c_MO_init 127 = .ok (.bipush 40, 2) := by decide +kernel
theorem d_MO_init_129 : decode c_MO_init 129 = .ok (.newarray .int, 2) := by decide +kernel
theorem d_MO_init_131 : decode c_MO_init 131 = .ok (.putfield 54, 3) := by decide +kernel
theorem d_MO_init_134 : decode c_MO_init 134 = .ok (.aload_n 0, 1) := by decide +kernel
theorem d_MO_init_135 : decode c_MO_init 135 = .ok (.sipush 160, 3) := by decide +kernel
theorem d_MO_init_138 : decode c_MO_init 138 = .ok (.newarray .int, 2) := by decide +kernel
theorem d_MO_init_140 : decode c_MO_init 140 = .ok (.putfield 57, 3) := by decide +kernel
theorem d_MO_init_143 : decode c_MO_init 143 = .ok (.aload_n 0, 1) := by decide +kernel
theorem d_MO_init_144 : decode c_MO_init 144 = .ok (.bipush 12, 2) := by decide +kernel
theorem d_MO_init_146 : decode c_MO_init 146 = .ok (.newarray .int, 2) := by decide +kernel
theorem d_MO_init_148 : decode c_MO_init 148 = .ok (.putfield 60, 3) := by decide +kernel
theorem d_MO_init_151 : decode c_MO_init 151 = .ok (.aload_n 0, 1) := by decide +kernel
theorem d_MO_init_152 : decode c_MO_init 152 = .ok (.bipush 12, 2) := by decide +kernel
theorem d_MO_init_154 : decode c_MO_init 154 = .ok (.newarray .int, 2) := by decide +kernel
theorem d_MO_init_156 : decode c_MO_init 156 = .ok (.putfield 63, 3) := by decide +kernel
theorem d_MO_init_159 : decode c_MO_init 159 = .ok (.aload_n 0, 1) := by decide +kernel
theorem d_MO_init_160 : decode c_MO_init 160 = .ok (.iconst 1, 1) := by decide +kernel
theorem d_MO_init_161 : decode c_MO_init 161 = .ok (.iload_n 1, 1) := by decide +kernel
theorem d_MO_init_162 : decode c_MO_init 162 = .ok (.bipush 7, 2) := by decide +kernel
theorem d_MO_init_164 : decode c_MO_init 164 = .ok (.iand, 1) := by decide +kernel
theorem d_MO_init_165 : decode c_MO_init 165 = .ok (.iadd, 1) := by decide +kernel
theorem d_MO_init_166 : decode c_MO_init 166 = .ok (.putfield 66, 3) := by decide +kernel
theorem d_MO_init_169 : decode c_MO_init 169 = .ok (.aload_n 0, 1) := by decide +kernel
theorem d_MO_init_170 : decode c_MO_init 170 = .ok (.iconst 1, 1) := by decide +kernel
theorem d_MO_init_171 : decode c_MO_init 171 = .ok (.iload_n 2, 1) := by decide +kernel
theorem d_MO_init_172 : decode c_MO_init 172 = .ok (.bipush 31, 2) := by decide +kernel
theorem d_MO_init_174 : decode c_MO_init 174 = .ok (.iand, 1) := by decide +kernel
theorem d_MO_init_175 : decode c_MO_init 175 = .ok (.iadd, 1) := by decide +kernel
theorem d_MO_init_176 : decode c_MO_init 176 = .ok (.putfield 70, 3) := by decide +kernel
theorem d_MO_init_179 : decode c_MO_init 179 = .ok (.return_, 1) := by decide +kernel
def ws_MO_init : List Cond := .code y_MO_init c_MO_init 3 none :: TBL
theorem d_MO_write_0 : decode c_MO_write 0 = .ok (.iconst 0, 1) := by decide +kernel
theorem d_MO_write_1 : decode c_MO_write 1 = .ok (.istore_n 3, 1) := by decide +kernel
theorem d_MO_write_2 : decode c_MO_write 2 = .ok (.bipush 56, 2) := by decide +kernel
theorem d_MO_write_4 : decode c_MO_write 4 = .ok (.istore 4, 2) := by decide +kernel
theorem d_MO_write_6 : decode c_MO_write 6 = .ok (.iload 4, 2) := by decide +kernel
theorem d_MO_write_8 : decode c_MO_write 8 = .ok (.ifCond .lt 58, 3) := by decide +kernel
theorem d_MO_write_11 : decode c_MO_write 11 = .ok (.lload_n 1, 1) := by decide +kernel
theorem d_MO_write_12 : decode c_MO_write 12 = .ok (.iload 4, 2) := by decide +kernel
theorem d_MO_write_14 : decode c_MO_write 14 = .ok (.lshr, 1) := by decide +kernel
theorem d_MO_write_15 : decode c_MO_write 15 = .ok (.ldc2_w 91, 3) := by decide +kernel
theorem d_MO_write_18 : decode c_MO_write 18 = .ok (.land, 1) := by decide +kernel
theorem d_MO_write_19 : decode c_MO_write 19 = .ok (.l2i, 1) := by decide +kernel
theorem d_MO_write_20 : decode c_MO_write 20 = .ok (.istore 5, 2) := by decide +kernel
theorem d_MO_write_22 : decode c_MO_write 22 = .ok (.iload 5, 2) := by decide +kernel
theorem d_MO_write_24 : decode c_MO_write 24 = .ok (.ifCond .eq 19, 3) := by decide +kernel
theorem d_MO_write_27 : decode c_MO_write 27 = .ok (.iload 5, 2) := by decide +kernel
theorem d_MO_write_29 : decode c_MO_write 29 = .ok (.bipush 32, 2) := by decide +kernel
theorem d_MO_write_31 : decode c_MO_write 31 = .ok (.if_icmp .lt 10, 3) := by decide +kernel
theorem d_MO_write_34 : decode c_MO_write 34 = .ok (.iload 5, 2) := by decide +kernel
theorem d_MO_write_36 : decode c_MO_write 36 = .ok (.bipush 126, 2) := by decide +kernel
theorem d_MO_write_38 : decode c_MO_write 38 = .ok (.if_icmp .le 5, 3) := by decide +kernel
theorem d_MO_write_41 : decode c_MO_write 41 = .ok (.iconst 0, 1) := by decide +kernel
theorem d_MO_write_42 : decode c_MO_write 42 = .ok (.ireturn, 1) := by decide +kernel
theorem d_MO_write_43 : decode c_MO_write 43 = .ok (.iload 5, 2) := by decide +kernel
theorem d_MO_write_45 : decode c_MO_write 45 = .ok (.ifCond .eq 9, 3) := by decide +kernel
theorem d_MO_write_48 : decode c_MO_write 48 = .ok (.iload_n 3, 1) := by decide +kernel
theorem d_MO_write_49 : decode c_MO_write 49 = .ok (.iconst 1, 1) := by decide +kernel
theorem d_MO_write_50 : decode c_MO_write 50 = .ok (.iadd, 1) := by decide +kernel
theorem d_MO_write_51 : decode c_MO_write 51 = .ok (.goto 4, 3) := by decide +kernel
theorem d_MO_write_54 : decode c_MO_write 54 = .ok (.iload_n 3, 1) := by decide +kernel
theorem d_MO_write_55 : decode c_MO_write 55 = .ok (.istore_n 3, 1) := by decide +kernel
theorem d_MO_write_56 : decode c_MO_write 56 = .ok (.iload 4, 2) := by decide +kernel
theorem d_MO_write_58 : decode c_MO_write 58 = .ok (.bipush 8, 2) := by decide +kernel
theorem d_MO_write_60 : decode c_MO_write 60 = .ok (.isub, 1) := by decide +kernel
theorem d_MO_write_61 : decode c_MO_write 61 = .ok (.istore 4, 2) := by decide +kernel
theorem d_MO_write_63 : decode c_MO_write 63 = .ok (.goto (-57), 3) := by decide +kernel
theorem d_MO_write_66 : decode c_MO_write 66 = .ok (.aload_n 0, 1) := by decide +kernel
theorem d_MO_write_67 : decode c_MO_write 67 = .ok (.getfield 93, 3) := by decide +kernel
theorem d_MO_write_70 : decode c_MO_write 70 = .ok (.iload_n 3, 1) := by decide +kernel
theorem d_MO_write_71 : decode c_MO_write 71 = .ok (.iadd, 1) := by decide +kernel
theorem d_MO_write_72 : decode c_MO_write 72 = .ok (.sipush 160, 3) := by decide +kernel
theorem d_MO_write_75 : decode c_MO_write 75 = .ok (.if_icmp .le 5, 3) := by decide +kernel
theorem d_MO_write_78 : decode c_MO_write 78 = .ok (.iconst 0, 1) := by decide +kernel
theorem d_MO_write_79 : decode c_MO_write 79 = .ok (.ireturn, 1) := by decide +kernel
theorem d_MO_write_80 : decode c_MO_write 80 = .ok (.bipush 56, 2) := by decide +kernel
theorem d_MO_write_82 : decode c_MO_write 82 = .ok (.istore 4, 2) := by decide +kernel
theorem d_MO_write_84 : decode c_MO_write 84 = .ok (.iload 4, 2) := by decide +kernel
theorem d_MO_write_86 : decode c_MO_write 86 = .ok (.ifCond .lt 51, 3) := by decide +kernel
theorem d_MO_write_89 : decode c_MO_write 89 = .ok (.lload_n 1, 1) := by decide +kernel
theorem d_MO_write_90 : decode c_MO_write 90 = .ok (.iload 4, 2) := by decide +kernel
theorem d_MO_write_92 : decode c_MO_write 92 = .ok (.lshr, 1) := by decide +kernel
theorem d_MO_write_93 : decode c_MO_write 93 = .ok (.ldc2_w 91, 3) := by decide +kernel
theorem d_MO_write_96 : decode c_MO_write 96 = .ok (.land, 1) := by decide +kernel
theorem d_MO_write_97 : decode c_MO_write 97 = .ok (.l2i, 1) := by decide +kernel
theorem d_MO_write_98 : decode c_MO_write 98 = .ok (.istore 5, 2) := by decide +kernel
theorem d_MO_write_100 : decode c_MO_write 100 = .ok (.iload 5, 2) := by decide +kernel
theorem d_MO_write_102 : decode c_MO_write 102 = .ok (.ifCond .eq 25, 3) := by decide +kernel
theorem d_MO_write_105 : decode c_MO_write 105 = .ok (.aload_n 0, 1) := by decide +kernel
theorem d_MO_write_106 : decode c_MO_write 106 = .ok (.getfield 39, 3) := by decide +kernel
theorem d_MO_write_109 : decode c_MO_write 109 = .ok (.aload_n 0, 1) := by decide +kernel
theorem d_MO_write_110 : decode c_MO_write 110 = .ok (.getfield 93, 3) := by decide +kernel
theorem d_MO_write_113 : decode c_MO_write 113 = .ok (.iload 5, 2) := by decide +kernel
theorem d_MO_write_115 : decode c_MO_write 115 = .ok (.i2c, 1) := by decide +kernel
theorem d_MO_write_116 : decode c_MO_write 116 = .ok (.castore, 1) := by decide +kernel
theorem d_MO_write_117 : decode c_MO_write 117 = .ok (.aload_n 0, 1) := by decide +kernel
theorem d_MO_write_118 : decode c_MO_write 118 = .ok (.dup, 1) := by decide +kernel
theorem d_MO_write_119 : decode c_MO_write 119 = .ok (.getfield 93, 3) := by decide +kernel
theorem d_MO_write_122 : decode c_MO_write 122 = .ok (.iconst 1, 1) := by decide +kernel
theorem d_MO_write_123 : decode c_MO_write 123 = .ok (.iadd, 1) := by decide +kernel
theorem d_MO_write_124 : decode c_MO_write 124 = .ok (.putfield 93, 3) := by decide +kernel
theorem d_MO_write_127 : decode c_MO_write 127 = .ok (.iload 4, 2) := by decide +kernel
theorem d_MO_write_129 : decode c_MO_write 129 = .ok (.bipush 8, 2) := by decide +kernel
theorem d_MO_write_131 : decode c_MO_write 131 = .ok (.isub, 1) := by decide +kernel
theorem d_MO_write_132 : decode c_MO_write 132 = .ok (.istore 4, 2) := by decide +kernel
theorem d_MO_write_134 : decode c_MO_write 134 = .ok (.goto (-50), 3) := by decide +kernel
theorem d_MO_write_137 : decode c_MO_write 137 = .ok (.iconst 1, 1) := by decide +kernel
theorem d_MO_write_138 : decode c_MO_write 138 = .ok (.ireturn, 1) := by decide +kernel
def ws_MO_write : List Cond := .code y_MO_write c_MO_write 6 (some .boolean) :: TBL
theorem d_MO_put_0 : decode c_MO_put 0 = .ok (.iconst (-1), 1) := by decide +kernel
theorem d_MO_put_1 : decode c_MO_put 1 = .ok (.istore_n 2, 1) := by decide +kernel
theorem d_MO_put_2 : decode c_MO_put 2 = .ok (.iload_n 1, 1) := by decide +kernel
theorem d_MO_put_3 : decode c_MO_put 3 = .ok (.invokestatic 184, 3) := by decide +kernel
theorem d_MO_put_6 : decode c_MO_put 6 = .ok (.ifCond .eq 43, 3) := by decide +kernel
theorem d_MO_put_9 : decode c_MO_put 9 = .ok (.aload_n 0, 1) := by decide +kernel
theorem d_MO_put_10 : decode c_MO_put 10 = .ok (.aload_n 0, 1) := by decide +kernel
theorem d_MO_put_11 : decode c_MO_put 11 = .ok (.getfield 66, 3) := by decide +kernel
theorem d_MO_put_14 : decode c_MO_put 14 = .ok (.invokevirtual 187, 3) := by decide +kernel
theorem d_MO_put_17 : decode c_MO_put 17 = .ok (.istore_n 2, 1) := by decide +kernel
theorem d_MO_put_18 : decode c_MO_put 18 = .ok (.iload_n 2, 1) := by decide +kernel
theorem d_MO_put_19 : decode c_MO_put 19 = .ok (.ifCond .ne 19, 3) := by decide +kernel
theorem d_MO_put_22 : decode c_MO_put 22 = .ok (.aload_n 0, 1) := by decide +kernel
theorem d_MO_put_23 : decode c_MO_put 23 = .ok (.getfield 7, 3) := by decide +kernel
theorem d_MO_put_26 : decode c_MO_put 26 = .ok (.bipush 8, 2) := by decide +kernel
theorem d_MO_put_28 : decode c_MO_put 28 = .ok (.iaload, 1) := by decide +kernel
theorem d_MO_put_29 : decode c_MO_put 29 = .ok (.aload_n 0, 1) := by decide +kernel
theorem d_MO_put_30 : decode c_MO_put 30 = .ok (.getfield 70, 3) := by decide +kernel
theorem d_MO_put_33 : decode c_MO_put 33 = .ok (.if_icmp .le 5, 3) := by decide +kernel
theorem d_MO_put_36 : decode c_MO_put 36 = .ok (.iconst 4, 1) := by decide +kernel
theorem d_MO_put_37 : decode c_MO_put 37 = .ok (.istore_n 2, 1) := by decide +kernel
theorem d_MO_put_38 : decode c_MO_put 38 = .ok (.iload_n 2, 1) := by decide +kernel
theorem d_MO_put_39 : decode c_MO_put 39 = .ok (.ifCond .ne 10, 3) := by decide +kernel
theorem d_MO_put_42 : decode c_MO_put 42 = .ok (.aload_n 0, 1) := by decide +kernel
theorem d_MO_put_43 : decode c_MO_put 43 = .ok (.bipush 8, 2) := by decide +kernel
theorem d_MO_put_45 : decode c_MO_put 45 = .ok (.iload_n 1, 1) := by decide +kernel
theorem d_MO_put_46 : decode c_MO_put 46 = .ok (.invokevirtual 190, 3) := by decide +kernel
theorem d_MO_put_49 : decode c_MO_put 49 = .ok (.aload_n 0, 1) := by decide +kernel
theorem d_MO_put_50 : decode c_MO_put 50 = .ok (.iconst 0, 1) := by decide +kernel
theorem d_MO_put_51 : decode c_MO_put 51 = .ok (.putfield 93, 3) := by decide +kernel
theorem d_MO_put_54 : decode c_MO_put 54 = .ok (.iload_n 2, 1) := by decide +kernel
theorem d_MO_put_55 : decode c_MO_put 55 = .ok (.ireturn, 1) := by decide +kernel
def ws_MO_put : List Cond := .code y_MO_put c_MO_put 3 (some .int) :: TBL
theorem d_MO_isDocument_0 : decode c_MO_isDocument 0 = .ok (.iload_n 0, 1) := by decide +kernel
theorem d_MO_isDocument_1 : decode c_MO_isDocument 1 = .ok (.ifCond .lt 12, 3) := by decide +kernel
theorem d_MO_isDocument_4 : decode c_MO_isDocument 4 = .ok (.iload_n 0, 1) := by decide +kernel
theorem d_MO_isDocument_5 : decode c_MO_isDocument 5 = .ok (.iconst 2, 1) := by decide +kernel
theorem d_MO_isDocument_6 : decode c_MO_isDocument 6 = .ok (.if_icmp .gt 7, 3) := by decide +kernel
theorem d_MO_isDocument_9 : decode c_MO_isDocument 9 = .ok (.iconst 1, 1) := by decide +kernel
theorem d_MO_isDocument_10 : decode c_MO_isDocument 10 = .ok (.goto 4, 3) := by decide +kernel
theorem d_MO_isDocument_13 : decode c_MO_isDocument 13 = .ok (.iconst 0, 1) := by decide +kernel
theorem d_MO_isDocument_14 : decode c_MO_isDocument 14 = .ok (.ireturn, 1) := by decide +kernel
def ws_MO_isDocument : List Cond := .code y_MO_isDocument c_MO_isDocument 1 (some .boolean) :: TBL
theorem d_MO_readDraft_0 : decode c_MO_readDraft 0 = .ok (.aload_n 0, 1) := by decide +kernel
theorem d_MO_readDraft_1 : decode c_MO_readDraft 1 = .ok (.iconst 0, 1) := by decide +kernel
theorem d_MO_readDraft_2 : decode c_MO_readDraft 2 = .ok (.putfield 96, 3) := by decide +kernel
theorem d_MO_readDraft_5 : decode c_MO_readDraft 5 = .ok (.aload_n 0, 1) := by decide +kernel
theorem d_MO_readDraft_6 : decode c_MO_readDraft 6 = .ok (.iconst 0, 1) := by decide +kernel
theorem d_MO_readDraft_7 : decode c_MO_readDraft 7 = .ok (.putfield 140, 3) := by decide +kernel
theorem d_MO_readDraft_10 : decode c_MO_readDraft 10 = .ok (.aload_n 0, 1) := by decide +kernel
theorem d_MO_readDraft_11 : decode c_MO_readDraft 11 = .ok (.getfield 7, 3) := by decide +kernel
theorem d_MO_readDraft_14 : decode c_MO_readDraft 14 = .ok (.bipush 8, 2) := by decide +kernel
theorem d_MO_readDraft_16 : decode c_MO_readDraft 16 = .ok (.iconst 0, 1) := by decide +kernel
theorem d_MO_readDraft_17 : decode c_MO_readDraft 17 = .ok (.iastore, 1) := by decide +kernel
theorem d_MO_readDraft_18 : decode c_MO_readDraft 18 = .ok (.aload_n 0, 1) := by decide +kernel
theorem d_MO_readDraft_19 : decode c_MO_readDraft 19 = .ok (.iconst (-1), 1) := by decide +kernel
theorem d_MO_readDraft_20 : decode c_MO_readDraft 20 = .ok (.putfield 88, 3) := by decide +kernel
theorem d_MO_readDraft_23 : decode c_MO_readDraft 23 = .ok (.aload_n 0, 1) := by decide +kernel
theorem d_MO_readDraft_24 : decode c_MO_readDraft 24 = .ok (.iconst 0, 1) := by decide +kernel
theorem d_MO_readDraft_25 : decode c_MO_readDraft 25 = .ok (.putfield 147, 3) := by decide +kernel
theorem d_MO_readDraft_28 : decode c_MO_readDraft 28 = .ok (.iconst 1, 1) := by decide +kernel
theorem d_MO_readDraft_29 : decode c_MO_readDraft 29 = .ok (.istore_n 2, 1) := by decide +kernel
theorem d_MO_readDraft_30 : decode c_MO_readDraft 30 = .ok (.iconst 1, 1) := by decide +kernel
theorem d_MO_readDraft_31 : decode c_MO_readDraft 31 = .ok (.istore_n 3, 1) := by decide +kernel
theorem d_MO_readDraft_32 : decode c_MO_readDraft 32 = .ok (.iload_n 2, 1) := by decide +kernel
theorem d_MO_readDraft_33 : decode c_MO_readDraft 33 = .ok (.ifCond .eq 57, 3) := by decide +kernel
theorem d_MO_readDraft_36 : decode c_MO_readDraft 36 = .ok (.aload_n 0, 1) := by decide +kernel
theorem d_MO_readDraft_37 : decode c_MO_readDraft 37 = .ok (.invokevirtual 150, 3) := by decide +kernel
theorem d_MO_readDraft_40 : decode c_MO_readDraft 40 = .ok (.iload_n 3, 1) := by decide +kernel
theorem d_MO_readDraft_41 : decode c_MO_readDraft 41 = .ok (.ifCond .eq 12, 3) := by decide +kernel
theorem d_MO_readDraft_44 : decode c_MO_readDraft 44 = .ok (.aload_n 0, 1) := by decide +kernel
theorem d_MO_readDraft_45 : decode c_MO_readDraft 45 = .ok (.iload_n 1, 1) := by decide +kernel
theorem d_MO_readDraft_46 : decode c_MO_readDraft 46 = .ok (.invokevirtual 153, 3) := by decide +kernel
theorem d_MO_readDraft_49 : decode c_MO_readDraft 49 = .ok (.istore_n 3, 1) := by decide +kernel
theorem d_MO_readDraft_50 : decode c_MO_readDraft 50 = .ok (.goto 20, 3) := by decide +kernel
theorem d_MO_readDraft_53 : decode c_MO_readDraft 53 = .ok (.aload_n 0, 1) := by decide +kernel
theorem d_MO_readDraft_54 : decode c_MO_readDraft 54 = .ok (.getfield 140, 3) := by decide +kernel
theorem d_MO_readDraft_57 : decode c_MO_readDraft 57 = .ok (.ifCond .ne 8, 3) := by decide +kernel
theorem d_MO_readDraft_60 : decode c_MO_readDraft 60 = .ok (.iconst 0, 1) := by decide +kernel
theorem d_MO_readDraft_61 : decode c_MO_readDraft 61 = .ok (.istore_n 2, 1) := by decide +kernel
theorem d_MO_readDraft_62 : decode c_MO_readDraft 62 = .ok (.goto 8, 3) := by decide +kernel
theorem d_MO_readDraft_65 : decode c_MO_readDraft 65 = .ok (.aload_n 0, 1) := by decide +kernel
theorem d_MO_readDraft_66 : decode c_MO_readDraft 66 = .ok (.invokevirtual 157, 3) := by decide +kernel
theorem d_MO_readDraft_69 : decode c_MO_readDraft 69 = .ok (.istore_n 3, 1) := by decide +kernel
theorem d_MO_readDraft_70 : decode c_MO_readDraft 70 = .ok (.iload_n 2, 1) := by decide +kernel
theorem d_MO_readDraft_71 : decode c_MO_readDraft 71 = .ok (.ifCond .eq 14, 3) := by decide +kernel
theorem d_MO_readDraft_74 : decode c_MO_readDraft 74 = .ok (.aload_n 0, 1) := by decide +kernel
theorem d_MO_readDraft_75 : decode c_MO_readDraft 75 = .ok (.getfield 147, 3) := by decide +kernel
theorem d_MO_readDraft_78 : decode c_MO_readDraft 78 = .ok (.ifCond .ne 7, 3) := by decide +kernel
theorem d_MO_readDraft_81 : decode c_MO_readDraft 81 = .ok (.iconst 1, 1) := by decide +kernel
theorem d_MO_readDraft_82 : decode c_MO_readDraft 82 = .ok (.goto 4, 3) := by decide +kernel
theorem d_MO_readDraft_85 : decode c_MO_readDraft 85 = .ok (.iconst 0, 1) := by decide +kernel
theorem d_MO_readDraft_86 : decode c_MO_readDraft 86 = .ok (.istore_n 2, 1) := by decide +kernel
theorem d_MO_readDraft_87 : decode c_MO_readDraft 87 = .ok (.goto (-55), 3) := by decide +kernel
theorem d_MO_readDraft_90 : decode c_MO_readDraft 90 = .ok (.aload_n 0, 1) := by decide +kernel
theorem d_MO_readDraft_91 : decode c_MO_readDraft 91 = .ok (.aload_n 0, 1) := by decide +kernel
theorem d_MO_readDraft_92 : decode c_MO_readDraft 92 = .ok (.getfield 147, 3) := by decide +kernel
theorem d_MO_readDraft_95 : decode c_MO_readDraft 95 = .ok (.ifCond .ne 18, 3) := by decide +kernel
theorem d_MO_readDraft_98 : decode c_MO_readDraft 98 = .ok (.aload_n 0, 1) := by decide +kernel
theorem d_MO_readDraft_99 : decode c_MO_readDraft 99 = .ok (.getfield 96, 3) := by decide +kernel
theorem d_MO_readDraft_102 : decode c_MO_readDraft 102 = .ok (.aload_n 0, 1) := by decide +kernel
theorem d_MO_readDraft_103 : decode c_MO_readDraft 103 = .ok (.getfield 93, 3) := by decide +kernel
theorem d_MO_readDraft_106 : decode c_MO_readDraft 106 = .ok (.if_icmp .ge 7, 3) := by decide +kernel
theorem d_MO_readDraft_109 : decode c_MO_readDraft 109 = .ok (.iconst 1, 1) := by decide +kernel
theorem d_MO_readDraft_110 : decode c_MO_readDraft 110 = .ok (.goto 7, 3) := by decide +kernel
theorem d_MO_readDraft_113 : decode c_MO_readDraft 113 = .ok (.aload_n 0, 1) := by decide +kernel
theorem d_MO_readDraft_114 : decode c_MO_readDraft 114 = .ok (.getfield 147, 3) := by decide +kernel
theorem d_MO_readDraft_117 : decode c_MO_readDraft 117 = .ok (.putfield 147, 3) := by decide +kernel
theorem d_MO_readDraft_120 : decode c_MO_readDraft 120 = .ok (.aload_n 0, 1) := by decide +kernel
theorem d_MO_readDraft_121 : decode c_MO_readDraft 121 = .ok (.getfield 147, 3) := by decide +kernel
theorem d_MO_readDraft_124 : decode c_MO_readDraft 124 = .ok (.ireturn, 1) := by decide +kernel
def ws_MO_readDraft : List Cond := .code y_MO_readDraft c_MO_readDraft 4 (some .int) :: TBL
theorem d_MO_blanks_0 : decode c_MO_blanks 0 = .ok (.aload_n 0, 1) := by decide +kernel
theorem d_MO_blanks_1 : decode c_MO_blanks 1 = .ok (.invokevirtual 99, 3) := by decide +kernel
theorem d_MO_blanks_4 : decode c_MO_blanks 4 = .ok (.bipush 32, 2) := by decide +kernel
theorem d_MO_blanks_6 : decode c_MO_blanks 6 = .ok (.if_icmp .ne 16, 3) := by decide +kernel
theorem d_MO_blanks_9 : decode c_MO_blanks 9 = .ok (.aload_n 0, 1) := by decide +kernel
theorem d_MO_blanks_10 : decode c_MO_blanks 10 = .ok (.dup, 1) := by decide +kernel
theorem d_MO_blanks_11 : decode c_MO_blanks 11 = .ok (.getfield 96, 3) := by decide +kernel
theorem d_MO_blanks_14 : decode c_MO_blanks 14 = .ok (.iconst 1, 1) := by decide +kernel
theorem d_MO_blanks_15 : decode c_MO_blanks 15 = .ok (.iadd, 1) := by decide +kernel
theorem d_MO_blanks_16 : decode c_MO_blanks 16 = .ok (.putfield 96, 3) := by decide +kernel
theorem d_MO_blanks_19 : decode c_MO_blanks 19 = .ok (.goto (-19), 3) := by decide +kernel
theorem d_MO_blanks_22 : decode c_MO_blanks 22 = .ok (.return_, 1) := by decide +kernel
def ws_MO_blanks : List Cond := .code y_MO_blanks c_MO_blanks 1 none :: TBL
theorem d_MO_look_0 : decode c_MO_look 0 = .ok (.aload_n 0, 1) := by decide +kernel
theorem d_MO_look_1 : decode c_MO_look 1 = .ok (.getfield 96, 3) := by decide +kernel
theorem d_MO_look_4 : decode c_MO_look 4 = .ok (.aload_n 0, 1) := by decide +kernel
theorem d_MO_look_5 : decode c_MO_look 5 = .ok (.getfield 93, 3) := by decide +kernel
theorem d_MO_look_8 : decode c_MO_look 8 = .ok (.if_icmp .ge 15, 3) := by decide +kernel
theorem d_MO_look_11 : decode c_MO_look 11 = .ok (.aload_n 0, 1) := by decide +kernel
theorem d_MO_look_12 : decode c_MO_look 12 = .ok (.getfield 39, 3) := by decide +kernel
theorem d_MO_look_15 : decode c_MO_look 15 = .ok (.aload_n 0, 1) := by decide +kernel
theorem d_MO_look_16 : decode c_MO_look 16 = .ok (.getfield 96, 3) := by decide +kernel
theorem d_MO_look_19 : decode c_MO_look 19 = .ok (.caload, 1) := by decide +kernel
theorem d_MO_look_20 : decode c_MO_look 20 = .ok (.goto 4, 3) := by decide +kernel
theorem d_MO_look_23 : decode c_MO_look 23 = .ok (.iconst 0, 1) := by decide +kernel
theorem d_MO_look_24 : decode c_MO_look 24 = .ok (.ireturn, 1) := by decide +kernel
def ws_MO_look : List Cond := .code y_MO_look c_MO_look 1 (some .char) :: TBL
theorem d_MO_value_0 : decode c_MO_value 0 = .ok (.aload_n 0, 1) := by decide +kernel
theorem d_MO_value_1 : decode c_MO_value 1 = .ok (.invokevirtual 99, 3) := by decide +kernel
theorem d_MO_value_4 : decode c_MO_value 4 = .ok (.istore_n 2, 1) := by decide +kernel
theorem d_MO_value_5 : decode c_MO_value 5 = .ok (.iload_n 2, 1) := by decide +kernel
theorem d_MO_value_6 : decode c_MO_value 6 = .ok (.bipush 91, 2) := by decide +kernel
theorem d_MO_value_8 : decode c_MO_value 8 = .ok (.if_icmp .eq 57, 3) := by decide +kernel
theorem d_MO_value_11 : decode c_MO_value 11 = .ok (.iload_n 2, 1) := by decide +kernel
theorem d_MO_value_12 : decode c_MO_value 12 = .ok (.bipush 123, 2) := by decide +kernel
theorem d_MO_value_14 : decode c_MO_value 14 = .ok (.if_icmp .eq 51, 3) := by decide +kernel
theorem d_MO_value_17 : decode c_MO_value 17 = .ok (.aload_n 0, 1) := by decide +kernel
theorem d_MO_value_18 : decode c_MO_value 18 = .ok (.getfield 96, 3) := by decide +kernel
theorem d_MO_value_21 : decode c_MO_value 21 = .ok (.aload_n 0, 1) := by decide +kernel
theorem d_MO_value_22 : decode c_MO_value 22 = .ok (.getfield 93, 3) := by decide +kernel
theorem d_MO_value_25 : decode c_MO_value 25 = .ok (.if_icmp .ge 15, 3) := by decide +kernel
theorem d_MO_value_28 : decode c_MO_value 28 = .ok (.aload_n 0, 1) := by decide +kernel
theorem d_MO_value_29 : decode c_MO_value 29 = .ok (.iconst 0, 1) := by decide +kernel
theorem d_MO_value_30 : decode c_MO_value 30 = .ok (.invokevirtual 160, 3) := by decide +kernel
theorem d_MO_value_33 : decode c_MO_value 33 = .ok (.ifCond .eq 7, 3) := by decide +kernel
theorem d_MO_value_36 : decode c_MO_value 36 = .ok (.iconst 1, 1) := by decide +kernel
theorem d_MO_value_37 : decode c_MO_value 37 = .ok (.goto 4, 3) := by decide +kernel
theorem d_MO_value_40 : decode c_MO_value 40 = .ok (.iconst 0, 1) := by decide +kernel
theorem d_MO_value_41 : decode c_MO_value 41 = .ok (.istore_n 3, 1) := by decide +kernel
theorem d_MO_value_42 : decode c_MO_value 42 = .ok (.iload_n 3, 1) := by decide +kernel
theorem d_MO_value_43 : decode c_MO_value 43 = .ok (.ifCond .eq 15, 3) := by decide +kernel
theorem d_MO_value_46 : decode c_MO_value 46 = .ok (.aload_n 0, 1) := by decide +kernel
theorem d_MO_value_47 : decode c_MO_value 47 = .ok (.aload_n 0, 1) := by decide +kernel
theorem d_MO_value_48 : decode c_MO_value 48 = .ok (.getfield 123, 3) := by decide +kernel
theorem d_MO_value_51 : decode c_MO_value 51 = .ok (.invokevirtual 164, 3) := by decide +kernel
theorem d_MO_value_54 : decode c_MO_value 54 = .ok (.pop, 1) := by decide +kernel
theorem d_MO_value_55 : decode c_MO_value 55 = .ok (.goto 8, 3) := by decide +kernel
theorem d_MO_value_58 : decode c_MO_value 58 = .ok (.aload_n 0, 1) := by decide +kernel
theorem d_MO_value_59 : decode c_MO_value 59 = .ok (.iconst 1, 1) := by decide +kernel
theorem d_MO_value_60 : decode c_MO_value 60 = .ok (.putfield 147, 3) := by decide +kernel
theorem d_MO_value_63 : decode c_MO_value 63 = .ok (.iconst 0, 1) := by decide +kernel
theorem d_MO_value_64 : decode c_MO_value 64 = .ok (.ireturn, 1) := by decide +kernel
theorem d_MO_value_65 : decode c_MO_value 65 = .ok (.aload_n 0, 1) := by decide +kernel
theorem d_MO_value_66 : decode c_MO_value 66 = .ok (.getfield 140, 3) := by decide +kernel
theorem d_MO_value_69 : decode c_MO_value 69 = .ok (.iload_n 1, 1) := by decide +kernel
theorem d_MO_value_70 : decode c_MO_value 70 = .ok (.if_icmp .ne 10, 3) := by decide +kernel
theorem d_MO_value_73 : decode c_MO_value 73 = .ok (.aload_n 0, 1) := by decide +kernel
theorem d_MO_value_74 : decode c_MO_value 74 = .ok (.iconst 2, 1) := by decide +kernel
theorem d_MO_value_75 : decode c_MO_value 75 = .ok (.putfield 147, 3) := by decide +kernel
theorem d_MO_value_78 : decode c_MO_value 78 = .ok (.iconst 0, 1) := by decide +kernel
theorem d_MO_value_79 : decode c_MO_value 79 = .ok (.ireturn, 1) := by decide +kernel
theorem d_MO_value_80 : decode c_MO_value 80 = .ok (.aload_n 0, 1) := by decide +kernel
theorem d_MO_value_81 : decode c_MO_value 81 = .ok (.getfield 42, 3) := by decide +kernel
theorem d_MO_value_84 : decode c_MO_value 84 = .ok (.aload_n 0, 1) := by decide +kernel
theorem d_MO_value_85 : decode c_MO_value 85 = .ok (.getfield 140, 3) := by decide +kernel
theorem d_MO_value_88 : decode c_MO_value 88 = .ok (.aload_n 0, 1) := by decide +kernel
theorem d_MO_value_89 : decode c_MO_value 89 = .ok (.iload_n 2, 1) := by decide +kernel
theorem d_MO_value_90 : decode c_MO_value 90 = .ok (.bipush 91, 2) := by decide +kernel
theorem d_MO_value_92 : decode c_MO_value 92 = .ok (.if_icmp .ne 7, 3) := by decide +kernel
theorem d_MO_value_95 : decode c_MO_value 95 = .ok (.iconst 5, 1) := by decide +kernel
theorem d_MO_value_96 : decode c_MO_value 96 = .ok (.goto 5, 3) := by decide +kernel
theorem d_MO_value_99 : decode c_MO_value 99 = .ok (.bipush 6, 2) := by decide +kernel
theorem d_MO_value_101 : decode c_MO_value 101 = .ok (.invokevirtual 164, 3) := by decide +kernel
theorem d_MO_value_104 : decode c_MO_value 104 = .ok (.iastore, 1) := by decide +kernel
theorem d_MO_value_105 : decode c_MO_value 105 = .ok (.aload_n 0, 1) := by decide +kernel
theorem d_MO_value_106 : decode c_MO_value 106 = .ok (.dup, 1) := by decide +kernel
theorem d_MO_value_107 : decode c_MO_value 107 = .ok (.getfield 140, 3) := by decide +kernel
theorem d_MO_value_110 : decode c_MO_value 110 = .ok (.iconst 1, 1) := by decide +kernel
theorem d_MO_value_111 : decode c_MO_value 111 = .ok (.iadd, 1) := by decide +kernel
theorem d_MO_value_112 : decode c_MO_value 112 = .ok (.putfield 140, 3) := by decide +kernel
theorem d_MO_value_115 : decode c_MO_value 115 = .ok (.aload_n 0, 1) := by decide +kernel
theorem d_MO_value_116 : decode c_MO_value 116 = .ok (.dup, 1) := by decide +kernel
theorem d_MO_value_117 : decode c_MO_value 117 = .ok (.getfield 96, 3) := by decide +kernel
theorem d_MO_value_120 : decode c_MO_value 120 = .ok (.iconst 1, 1) := by decide +kernel
theorem d_MO_value_121 : decode c_MO_value 121 = .ok (.iadd, 1) := by decide +kernel
theorem d_MO_value_122 : decode c_MO_value 122 = .ok (.putfield 96, 3) := by decide +kernel
theorem d_MO_value_125 : decode c_MO_value 125 = .ok (.aload_n 0, 1) := by decide +kernel
theorem d_MO_value_126 : decode c_MO_value 126 = .ok (.invokevirtual 150, 3) := by decide +kernel
theorem d_MO_value_129 : decode c_MO_value 129 = .ok (.aload_n 0, 1) := by decide +kernel
theorem d_MO_value_130 : decode c_MO_value 130 = .ok (.iload_n 2, 1) := by decide +kernel
theorem d_MO_value_131 : decode c_MO_value 131 = .ok (.bipush 91, 2) := by decide +kernel
theorem d_MO_value_133 : decode c_MO_value 133 = .ok (.if_icmp .ne 8, 3) := by decide +kernel
theorem d_MO_value_136 : decode c_MO_value 136 = .ok (.bipush 93, 2) := by decide +kernel
theorem d_MO_value_138 : decode c_MO_value 138 = .ok (.goto 5, 3) := by decide +kernel
theorem d_MO_value_141 : decode c_MO_value 141 = .ok (.bipush 125, 2) := by decide +kernel
theorem d_MO_value_143 : decode c_MO_value 143 = .ok (.invokevirtual 103, 3) := by decide +kernel
theorem d_MO_value_146 : decode c_MO_value 146 = .ok (.ifCond .eq 15, 3) := by decide +kernel
theorem d_MO_value_149 : decode c_MO_value 149 = .ok (.aload_n 0, 1) := by decide +kernel
theorem d_MO_value_150 : decode c_MO_value 150 = .ok (.dup, 1) := by decide +kernel
theorem d_MO_value_151 : decode c_MO_value 151 = .ok (.getfield 140, 3) := by decide +kernel
theorem d_MO_value_154 : decode c_MO_value 154 = .ok (.iconst 1, 1) := by decide +kernel
theorem d_MO_value_155 : decode c_MO_value 155 = .ok (.isub, 1) := by decide +kernel
theorem d_MO_value_156 : decode c_MO_value 156 = .ok (.putfield 140, 3) := by decide +kernel
theorem d_MO_value_159 : decode c_MO_value 159 = .ok (.iconst 0, 1) := by decide +kernel
theorem d_MO_value_160 : decode c_MO_value 160 = .ok (.ireturn, 1) := by decide +kernel
theorem d_MO_value_161 : decode c_MO_value 161 = .ok (.iload_n 2, 1) := by decide +kernel
theorem d_MO_value_162 : decode c_MO_value 162 = .ok (.bipush 123, 2) := by decide +kernel
theorem d_MO_value_164 : decode c_MO_value 164 = .ok (.if_icmp .ne 7, 3) := by decide +kernel
theorem d_MO_value_167 : decode c_MO_value 167 = .ok (.aload_n 0, 1) := by decide +kernel
theorem d_MO_value_168 : decode c_MO_value 168 = .ok (.invokevirtual 167, 3) := by decide +kernel
theorem d_MO_value_171 : decode c_MO_value 171 = .ok (.iconst 1, 1) := by decide +kernel
theorem d_MO_value_172 : decode c_MO_value 172 = .ok (.ireturn, 1) := by decide +kernel
def ws_MO_value : List Cond := .code y_MO_value c_MO_value 4 (some .boolean) :: TBL
theorem d_MO_scalar_0 : decode c_MO_scalar 0 = .ok (.aload_n 0, 1) := by decide +kernel
theorem d_MO_scalar_1 : decode c_MO_scalar 1 = .ok (.invokevirtual 99, 3) := by decide +kernel
theorem d_MO_scalar_4 : decode c_MO_scalar 4 = .ok (.istore_n 2, 1) := by decide +kernel
theorem d_MO_scalar_5 : decode c_MO_scalar 5 = .ok (.iload_n 2, 1) := by decide +kernel
theorem d_MO_scalar_6 : decode c_MO_scalar 6 = .ok (.bipush 45, 2) := by decide +kernel
theorem d_MO_scalar_8 : decode c_MO_scalar 8 = .ok (.if_icmp .eq 10, 3) := by decide +kernel
theorem d_MO_scalar_11 : decode c_MO_scalar 11 = .ok (.iload_n 2, 1) := by decide +kernel
theorem d_MO_scalar_12 : decode c_MO_scalar 12 = .ok (.invokestatic 110, 3) := by decide +kernel
theorem d_MO_scalar_15 : decode c_MO_scalar 15 = .ok (.ifCond .eq 13, 3) := by decide +kernel
theorem d_MO_scalar_18 : decode c_MO_scalar 18 = .ok (.aload_n 0, 1) := by decide +kernel
theorem d_MO_scalar_19 : decode c_MO_scalar 19 = .ok (.iconst 3, 1) := by decide +kernel
theorem d_MO_scalar_20 : decode c_MO_scalar 20 = .ok (.putfield 123, 3) := by decide +kernel
theorem d_MO_scalar_23 : decode c_MO_scalar 23 = .ok (.aload_n 0, 1) := by decide +kernel
theorem d_MO_scalar_24 : decode c_MO_scalar 24 = .ok (.invokevirtual 126, 3) := by decide +kernel
theorem d_MO_scalar_27 : decode c_MO_scalar 27 = .ok (.ireturn, 1) := by decide +kernel
theorem d_MO_scalar_28 : decode c_MO_scalar 28 = .ok (.aload_n 0, 1) := by decide +kernel
theorem d_MO_scalar_29 : decode c_MO_scalar 29 = .ok (.dup, 1) := by decide +kernel
theorem d_MO_scalar_30 : decode c_MO_scalar 30 = .ok (.getfield 96, 3) := by decide +kernel
theorem d_MO_scalar_33 : decode c_MO_scalar 33 = .ok (.iconst 1, 1) := by decide +kernel
theorem d_MO_scalar_34 : decode c_MO_scalar 34 = .ok (.iadd, 1) := by decide +kernel
theorem d_MO_scalar_35 : decode c_MO_scalar 35 = .ok (.putfield 96, 3) := by decide +kernel
theorem d_MO_scalar_38 : decode c_MO_scalar 38 = .ok (.aload_n 0, 1) := by decide +kernel
theorem d_MO_scalar_39 : decode c_MO_scalar 39 = .ok (.lconst 0, 1) := by decide +kernel
theorem d_MO_scalar_40 : decode c_MO_scalar 40 = .ok (.putfield 117, 3) := by decide +kernel
theorem d_MO_scalar_43 : decode c_MO_scalar 43 = .ok (.aload_n 0, 1) := by decide +kernel
theorem d_MO_scalar_44 : decode c_MO_scalar 44 = .ok (.iload_n 2, 1) := by decide +kernel
theorem d_MO_scalar_45 : decode c_MO_scalar 45 = .ok (.bipush 110, 2) := by decide +kernel
theorem d_MO_scalar_47 : decode c_MO_scalar 47 = .ok (.if_icmp .ne 7, 3) := by decide +kernel
theorem d_MO_scalar_50 : decode c_MO_scalar 50 = .ok (.iconst 0, 1) := by decide +kernel
theorem d_MO_scalar_51 : decode c_MO_scalar 51 = .ok (.goto 24, 3) := by decide +kernel
theorem d_MO_scalar_54 : decode c_MO_scalar 54 = .ok (.iload_n 2, 1) := by decide +kernel
theorem d_MO_scalar_55 : decode c_MO_scalar 55 = .ok (.bipush 116, 2) := by decide +kernel
theorem d_MO_scalar_57 : decode c_MO_scalar 57 = .ok (.if_icmp .ne 7, 3) := by decide +kernel
theorem d_MO_scalar_60 : decode c_MO_scalar 60 = .ok (.iconst 1, 1) := by decide +kernel
theorem d_MO_scalar_61 : decode c_MO_scalar 61 = .ok (.goto 14, 3) := by decide +kernel
theorem d_MO_scalar_64 : decode c_MO_scalar 64 = .ok (.iload_n 2, 1) := by decide +kernel
theorem d_MO_scalar_65 : decode c_MO_scalar 65 = .ok (.bipush 102, 2) := by decide +kernel
theorem d_MO_scalar_67 : decode c_MO_scalar 67 = .ok (.if_icmp .ne 7, 3) := by decide +kernel
theorem d_MO_scalar_70 : decode c_MO_scalar 70 = .ok (.iconst 2, 1) := by decide +kernel
theorem d_MO_scalar_71 : decode c_MO_scalar 71 = .ok (.goto 4, 3) := by decide +kernel
theorem d_MO_scalar_74 : decode c_MO_scalar 74 = .ok (.iconst 4, 1) := by decide +kernel
theorem d_MO_scalar_75 : decode c_MO_scalar 75 = .ok (.putfield 123, 3) := by decide +kernel
theorem d_MO_scalar_78 : decode c_MO_scalar 78 = .ok (.iload_n 2, 1) := by decide +kernel
theorem d_MO_scalar_79 : decode c_MO_scalar 79 = .ok (.bipush 110, 2) := by decide +kernel
theorem d_MO_scalar_81 : decode c_MO_scalar 81 = .ok (.if_icmp .ne 15, 3) := by decide +kernel
theorem d_MO_scalar_84 : decode c_MO_scalar 84 = .ok (.aload_n 0, 1) := by decide +kernel
theorem d_MO_scalar_85 : decode c_MO_scalar 85 = .ok (.bipush 117, 2) := by decide +kernel
theorem d_MO_scalar_87 : decode c_MO_scalar 87 = .ok (.bipush 108, 2) := by decide +kernel
theorem d_MO_scalar_89 : decode c_MO_scalar 89 = .ok (.bipush 108, 2) := by decide +kernel
theorem d_MO_scalar_91 : decode c_MO_scalar 91 = .ok (.iconst 0, 1) := by decide +kernel
theorem d_MO_scalar_92 : decode c_MO_scalar 92 = .ok (.invokevirtual 130, 3) := by decide +kernel
theorem d_MO_scalar_95 : decode c_MO_scalar 95 = .ok (.ireturn, 1) := by decide +kernel
theorem d_MO_scalar_96 : decode c_MO_scalar 96 = .ok (.iload_n 2, 1) := by decide +kernel
theorem d_MO_scalar_97 : decode c_MO_scalar 97 = .ok (.bipush 116, 2) := by decide +kernel
theorem d_MO_scalar_99 : decode c_MO_scalar 99 = .ok (.if_icmp .ne 15, 3) := by decide +kernel
theorem d_MO_scalar_102 : decode c_MO_scalar 102 = .ok (.aload_n 0, 1) := by decide +kernel
theorem d_MO_scalar_103 : decode c_MO_scalar 103 = .ok (.bipush 114, 2) := by decide +kernel
theorem d_MO_scalar_105 : decode c_MO_scalar 105 = .ok (.bipush 117, 2) := by decide +kernel
theorem d_MO_scalar_107 : decode c_MO_scalar 107 = .ok (.bipush 101, 2) := by decide +kernel
theorem d_MO_scalar_109 : decode c_MO_scalar 109 = .ok (.iconst 0, 1) := by decide +kernel
theorem d_MO_scalar_110 : decode c_MO_scalar 110 = .ok (.invokevirtual 130, 3) := by decide +kernel
theorem d_MO_scalar_113 : decode c_MO_scalar 113 = .ok (.ireturn, 1) := by decide +kernel
theorem d_MO_scalar_114 : decode c_MO_scalar 114 = .ok (.iload_n 2, 1) := by decide +kernel
theorem d_MO_scalar_115 : decode c_MO_scalar 115 = .ok (.bipush 102, 2) := by decide +kernel
theorem d_MO_scalar_117 : decode c_MO_scalar 117 = .ok (.if_icmp .ne 16, 3) := by decide +kernel
theorem d_MO_scalar_120 : decode c_MO_scalar 120 = .ok (.aload_n 0, 1) := by decide +kernel
theorem d_MO_scalar_121 : decode c_MO_scalar 121 = .ok (.bipush 97, 2) := by decide +kernel
theorem d_MO_scalar_123 : decode c_MO_scalar 123 = .ok (.bipush 108, 2) := by decide +kernel
theorem d_MO_scalar_125 : decode c_MO_scalar 125 = .ok (.bipush 115, 2) := by decide +kernel
theorem d_MO_scalar_127 : decode c_MO_scalar 127 = .ok (.bipush 101, 2) := by decide +kernel
theorem d_MO_scalar_129 : decode c_MO_scalar 129 = .ok (.invokevirtual 130, 3) := by decide +kernel
theorem d_MO_scalar_132 : decode c_MO_scalar 132 = .ok (.ireturn, 1) := by decide +kernel
theorem d_MO_scalar_133 : decode c_MO_scalar 133 = .ok (.iload_n 2, 1) := by decide +kernel
theorem d_MO_scalar_134 : decode c_MO_scalar 134 = .ok (.bipush 34, 2) := by decide +kernel
theorem d_MO_scalar_136 : decode c_MO_scalar 136 = .ok (.if_icmp .eq 13, 3) := by decide +kernel
theorem d_MO_scalar_139 : decode c_MO_scalar 139 = .ok (.iload_n 1, 1) := by decide +kernel
theorem d_MO_scalar_140 : decode c_MO_scalar 140 = .ok (.ifCond .eq 21, 3) := by decide +kernel
theorem d_MO_scalar_143 : decode c_MO_scalar 143 = .ok (.iload_n 2, 1) := by decide +kernel
theorem d_MO_scalar_144 : decode c_MO_scalar 144 = .ok (.bipush 39, 2) := by decide +kernel
theorem d_MO_scalar_146 : decode c_MO_scalar 146 = .ok (.if_icmp .ne 15, 3) := by decide +kernel
theorem d_MO_scalar_149 : decode c_MO_scalar 149 = .ok (.aload_n 0, 1) := by decide +kernel
theorem d_MO_scalar_150 : decode c_MO_scalar 150 = .ok (.iload_n 2, 1) := by decide +kernel
theorem d_MO_scalar_151 : decode c_MO_scalar 151 = .ok (.invokevirtual 134, 3) := by decide +kernel
theorem d_MO_scalar_154 : decode c_MO_scalar 154 = .ok (.ifCond .eq 7, 3) := by decide +kernel
theorem d_MO_scalar_157 : decode c_MO_scalar 157 = .ok (.iconst 1, 1) := by decide +kernel
theorem d_MO_scalar_158 : decode c_MO_scalar 158 = .ok (.goto 4, 3) := by decide +kernel
theorem d_MO_scalar_161 : decode c_MO_scalar 161 = .ok (.iconst 0, 1) := by decide +kernel
theorem d_MO_scalar_162 : decode c_MO_scalar 162 = .ok (.ireturn, 1) := by decide +kernel
def ws_MO_scalar : List Cond := .code y_MO_scalar c_MO_scalar 3 (some .boolean) :: TBL
theorem d_MO_digit_0 : decode c_MO_digit 0 = .ok (.iload_n 0, 1) := by decide +kernel
theorem d_MO_digit_1 : decode c_MO_digit 1 = .ok (.bipush 48, 2) := by decide +kernel
theorem d_MO_digit_3 : decode c_MO_digit 3 = .ok (.if_icmp .lt 13, 3) := by decide +kernel
theorem d_MO_digit_6 : decode c_MO_digit 6 = .ok (.iload_n 0, 1) := by decide +kernel
theorem d_MO_digit_7 : decode c_MO_digit 7 = .ok (.bipush 57, 2) := by decide +kernel
theorem d_MO_digit_9 : decode c_MO_digit 9 = .ok (.if_icmp .gt 7, 3) := by decide +kernel
theorem d_MO_digit_12 : decode c_MO_digit 12 = .ok (.iconst 1, 1) := by decide +kernel
theorem d_MO_digit_13 : decode c_MO_digit 13 = .ok (.goto 4, 3) := by decide +kernel
theorem d_MO_digit_16 : decode c_MO_digit 16 = .ok (.iconst 0, 1) := by decide +kernel
theorem d_MO_digit_17 : decode c_MO_digit 17 = .ok (.ireturn, 1) := by decide +kernel
def ws_MO_digit : List Cond := .code y_MO_digit c_MO_digit 1 (some .boolean) :: TBL
theorem d_MO_number_0 : decode c_MO_number 0 = .ok (.aload_n 0, 1) := by decide +kernel
theorem d_MO_number_1 : decode c_MO_number 1 = .ok (.bipush 45, 2) := by decide +kernel
theorem d_MO_number_3 : decode c_MO_number 3 = .ok (.invokevirtual 103, 3) := by decide +kernel
theorem d_MO_number_6 : decode c_MO_number 6 = .ok (.istore_n 1, 1) := by decide +kernel
theorem d_MO_number_7 : decode c_MO_number 7 = .ok (.aload_n 0, 1) := by decide +kernel
theorem d_MO_number_8 : decode c_MO_number 8 = .ok (.invokevirtual 99, 3) := by decide +kernel
theorem d_MO_number_11 : decode c_MO_number 11 = .ok (.invokestatic 110, 3) := by decide +kernel
theorem d_MO_number_14 : decode c_MO_number 14 = .ok (.ifCond .ne 5, 3) := by decide +kernel
theorem d_MO_number_17 : decode c_MO_number 17 = .ok (.iconst 0, 1) := by decide +kernel
theorem d_MO_number_18 : decode c_MO_number 18 = .ok (.ireturn, 1) := by decide +kernel
theorem d_MO_number_19 : decode c_MO_number 19 = .ok (.lconst 0, 1) := by decide +kernel
theorem d_MO_number_20 : decode c_MO_number 20 = .ok (.lstore_n 2, 1) := by decide +kernel
theorem d_MO_number_21 : decode c_MO_number 21 = .ok (.iconst 1, 1) := by decide +kernel
theorem d_MO_number_22 : decode c_MO_number 22 = .ok (.istore 4, 2) := by decide +kernel
theorem d_MO_number_24 : decode c_MO_number 24 = .ok (.iload 4, 2) := by decide +kernel
theorem d_MO_number_26 : decode c_MO_number 26 = .ok (.ifCond .eq 83, 3) := by decide +kernel
theorem d_MO_number_29 : decode c_MO_number 29 = .ok (.aload_n 0, 1) := by decide +kernel
theorem d_MO_number_30 : decode c_MO_number 30 = .ok (.invokevirtual 99, 3) := by decide +kernel
theorem d_MO_number_33 : decode c_MO_number 33 = .ok (.bipush 48, 2) := by decide +kernel
theorem d_MO_number_35 : decode c_MO_number 35 = .ok (.isub, 1) := by decide +kernel
theorem d_MO_number_36 : decode c_MO_number 36 = .ok (.istore 5, 2) := by decide +kernel
theorem d_MO_number_38 : decode c_MO_number 38 = .ok (.lload_n 2, 1) := by decide +kernel
theorem d_MO_number_39 : decode c_MO_number 39 = .ok (.ldc2_w 113, 3) := by decide +kernel
theorem d_MO_number_42 : decode c_MO_number 42 = .ok (.lcmp, 1) := by decide +kernel
theorem d_MO_number_43 : decode c_MO_number 43 = .ok (.ifCond .lt 18, 3) := by decide +kernel
theorem d_MO_number_46 : decode c_MO_number 46 = .ok (.lload_n 2, 1) := by decide +kernel
theorem d_MO_number_47 : decode c_MO_number 47 = .ok (.ldc2_w 113, 3) := by decide +kernel
theorem d_MO_number_50 : decode c_MO_number 50 = .ok (.lcmp, 1) := by decide +kernel
theorem d_MO_number_51 : decode c_MO_number 51 = .ok (.ifCond .ne 12, 3) := by decide +kernel
theorem d_MO_number_54 : decode c_MO_number 54 = .ok (.iload 5, 2) := by decide +kernel
theorem d_MO_number_56 : decode c_MO_number 56 = .ok (.bipush 8, 2) := by decide +kernel
theorem d_MO_number_58 : decode c_MO_number 58 = .ok (.if_icmp .le 5, 3) := by decide +kernel
theorem d_MO_number_61 : decode c_MO_number 61 = .ok (.iconst 0, 1) := by decide +kernel
theorem d_MO_number_62 : decode c_MO_number 62 = .ok (.ireturn, 1) := by decide +kernel
theorem d_MO_number_63 : decode c_MO_number 63 = .ok (.ldc2_w 115, 3) := by decide +kernel
theorem d_MO_number_66 : decode c_MO_number 66 = .ok (.lload_n 2, 1) := by decide +kernel
theorem d_MO_number_67 : decode c_MO_number 67 = .ok (.lmul, 1) := by decide +kernel
theorem d_MO_number_68 : decode c_MO_number 68 = .ok (.iload 5, 2) := by decide +kernel
theorem d_MO_number_70 : decode c_MO_number 70 = .ok (.i2l, 1) := by decide +kernel
theorem d_MO_number_71 : decode c_MO_number 71 = .ok (.lsub, 1) := by decide +kernel
theorem d_MO_number_72 : decode c_MO_number 72 = .ok (.lstore_n 2, 1) := by decide +kernel
theorem d_MO_number_73 : decode c_MO_number 73 = .ok (.aload_n 0, 1) := by decide +kernel
theorem d_MO_number_74 : decode c_MO_number 74 = .ok (.dup, 1) := by decide +kernel
theorem d_MO_number_75 : decode c_MO_number 75 = .ok (.getfield 96, 3) := by decide +kernel
theorem d_MO_number_78 : decode c_MO_number 78 = .ok (.iconst 1, 1) := by decide +kernel
theorem d_MO_number_79 : decode c_MO_number 79 = .ok (.iadd, 1) := by decide +kernel
theorem d_MO_number_80 : decode c_MO_number 80 = .ok (.putfield 96, 3) := by decide +kernel
theorem d_MO_number_83 : decode c_MO_number 83 = .ok (.lload_n 2, 1) := by decide +kernel
theorem d_MO_number_84 : decode c_MO_number 84 = .ok (.lconst 0, 1) := by decide +kernel
theorem d_MO_number_85 : decode c_MO_number 85 = .ok (.lcmp, 1) := by decide +kernel
theorem d_MO_number_86 : decode c_MO_number 86 = .ok (.ifCond .eq 17, 3) := by decide +kernel
theorem d_MO_number_89 : decode c_MO_number 89 = .ok (.aload_n 0, 1) := by decide +kernel
theorem d_MO_number_90 : decode c_MO_number 90 = .ok (.invokevirtual 99, 3) := by decide +kernel
theorem d_MO_number_93 : decode c_MO_number 93 = .ok (.invokestatic 110, 3) := by decide +kernel
theorem d_MO_number_96 : decode c_MO_number 96 = .ok (.ifCond .eq 7, 3) := by decide +kernel
theorem d_MO_number_99 : decode c_MO_number 99 = .ok (.iconst 1, 1) := by decide +kernel
theorem d_MO_number_100 : decode c_MO_number 100 = .ok (.goto 4, 3) := by decide +kernel
theorem d_MO_number_103 : decode c_MO_number 103 = .ok (.iconst 0, 1) := by decide +kernel
theorem d_MO_number_104 : decode c_MO_number 104 = .ok (.istore 4, 2) := by decide +kernel
theorem d_MO_number_106 : decode c_MO_number 106 = .ok (.goto (-82), 3) := by decide +kernel
theorem d_MO_number_109 : decode c_MO_number 109 = .ok (.aload_n 0, 1) := by decide +kernel
theorem d_MO_number_110 : decode c_MO_number 110 = .ok (.iload_n 1, 1) := by decide +kernel
theorem d_MO_number_111 : decode c_MO_number 111 = .ok (.ifCond .eq 7, 3) := by decide +kernel
theorem d_MO_number_114 : decode c_MO_number 114 = .ok (.lload_n 2, 1) := by decide +kernel
theorem d_MO_number_115 : decode c_MO_number 115 = .ok (.goto 5, 3) := by decide +kernel
theorem d_MO_number_118 : decode c_MO_number 118 = .ok (.lload_n 2, 1) := by decide +kernel
theorem d_MO_number_119 : decode c_MO_number 119 = .ok (.lneg, 1) := by decide +kernel
theorem d_MO_number_120 : decode c_MO_number 120 = .ok (.putfield 117, 3) := by decide +kernel
theorem d_MO_number_123 : decode c_MO_number 123 = .ok (.iload_n 1, 1) := by decide +kernel
theorem d_MO_number_124 : decode c_MO_number 124 = .ok (.ifCond .ne 11, 3) := by decide +kernel
theorem d_MO_number_127 : decode c_MO_number 127 = .ok (.lload_n 2, 1) := by decide +kernel
theorem d_MO_number_128 : decode c_MO_number 128 = .ok (.ldc2_w 121, 3) := by decide +kernel
theorem d_MO_number_131 : decode c_MO_number 131 = .ok (.lcmp, 1) := by decide +kernel
theorem d_MO_number_132 : decode c_MO_number 132 = .ok (.ifCond .lt 7, 3) := by decide +kernel
theorem d_MO_number_135 : decode c_MO_number 135 = .ok (.iconst 1, 1) := by decide +kernel
theorem d_MO_number_136 : decode c_MO_number 136 = .ok (.goto 4, 3) := by decide +kernel
theorem d_MO_number_139 : decode c_MO_number 139 = .ok (.iconst 0, 1) := by decide +kernel
theorem d_MO_number_140 : decode c_MO_number 140 = .ok (.ireturn, 1) := by decide +kernel
def ws_MO_number : List Cond := .code y_MO_number c_MO_number 6 (some .boolean) :: TBL
theorem d_MO_pass_0 : decode c_MO_pass 0 = .ok (.aload_n 0, 1) := by decide +kernel
theorem d_MO_pass_1 : decode c_MO_pass 1 = .ok (.invokevirtual 99, 3) := by decide +kernel
theorem d_MO_pass_4 : decode c_MO_pass 4 = .ok (.iload_n 1, 1) := by decide +kernel
theorem d_MO_pass_5 : decode c_MO_pass 5 = .ok (.if_icmp .ne 7, 3) := by decide +kernel
theorem d_MO_pass_8 : decode c_MO_pass 8 = .ok (.iconst 1, 1) := by decide +kernel
theorem d_MO_pass_9 : decode c_MO_pass 9 = .ok (.goto 4, 3) := by decide +kernel
theorem d_MO_pass_12 : decode c_MO_pass 12 = .ok (.iconst 0, 1) := by decide +kernel
theorem d_MO_pass_13 : decode c_MO_pass 13 = .ok (.istore_n 2, 1) := by decide +kernel
theorem d_MO_pass_14 : decode c_MO_pass 14 = .ok (.aload_n 0, 1) := by decide +kernel
theorem d_MO_pass_15 : decode c_MO_pass 15 = .ok (.iload_n 2, 1) := by decide +kernel
theorem d_MO_pass_16 : decode c_MO_pass 16 = .ok (.ifCond .eq 12, 3) := by decide +kernel
theorem d_MO_pass_19 : decode c_MO_pass 19 = .ok (.aload_n 0, 1) := by decide +kernel
theorem d_MO_pass_20 : decode c_MO_pass 20 = .ok (.getfield 96, 3) := by decide +kernel
theorem d_MO_pass_23 : decode c_MO_pass 23 = .ok (.iconst 1, 1) := by decide +kernel
theorem d_MO_pass_24 : decode c_MO_pass 24 = .ok (.iadd, 1) := by decide +kernel
theorem d_MO_pass_25 : decode c_MO_pass 25 = .ok (.goto 7, 3) := by decide +kernel
theorem d_MO_pass_28 : decode c_MO_pass 28 = .ok (.aload_n 0, 1) := by decide +kernel
theorem d_MO_pass_29 : decode c_MO_pass 29 = .ok (.getfield 96, 3) := by decide +kernel
theorem d_MO_pass_32 : decode c_MO_pass 32 = .ok (.putfield 96, 3) := by decide +kernel
theorem d_MO_pass_35 : decode c_MO_pass 35 = .ok (.iload_n 2, 1) := by decide +kernel
theorem d_MO_pass_36 : decode c_MO_pass 36 = .ok (.ireturn, 1) := by decide +kernel
def ws_MO_pass : List Cond := .code y_MO_pass c_MO_pass 3 (some .boolean) :: TBL
theorem d_MO_rest_0 : decode c_MO_rest 0 = .ok (.aload_n 0, 1) := by decide +kernel
theorem d_MO_rest_1 : decode c_MO_rest 1 = .ok (.iload_n 1, 1) := by decide +kernel
theorem d_MO_rest_2 : decode c_MO_rest 2 = .ok (.invokevirtual 103, 3) := by decide +kernel
theorem d_MO_rest_5 : decode c_MO_rest 5 = .ok (.ifCond .eq 23, 3) := by decide +kernel
theorem d_MO_rest_8 : decode c_MO_rest 8 = .ok (.aload_n 0, 1) := by decide +kernel
theorem d_MO_rest_9 : decode c_MO_rest 9 = .ok (.iload_n 2, 1) := by decide +kernel
theorem d_MO_rest_10 : decode c_MO_rest 10 = .ok (.invokevirtual 103, 3) := by decide +kernel
theorem d_MO_rest_13 : decode c_MO_rest 13 = .ok (.ifCond .eq 15, 3) := by decide +kernel
theorem d_MO_rest_16 : decode c_MO_rest 16 = .ok (.aload_n 0, 1) := by decide +kernel
theorem d_MO_rest_17 : decode c_MO_rest 17 = .ok (.iload_n 3, 1) := by decide +kernel
theorem d_MO_rest_18 : decode c_MO_rest 18 = .ok (.invokevirtual 103, 3) := by decide +kernel
theorem d_MO_rest_21 : decode c_MO_rest 21 = .ok (.ifCond .eq 7, 3) := by decide +kernel
theorem d_MO_rest_24 : decode c_MO_rest 24 = .ok (.iconst 1, 1) := by decide +kernel
theorem d_MO_rest_25 : decode c_MO_rest 25 = .ok (.goto 4, 3) := by decide +kernel
theorem d_MO_rest_28 : decode c_MO_rest 28 = .ok (.iconst 0, 1) := by decide +kernel
theorem d_MO_rest_29 : decode c_MO_rest 29 = .ok (.istore 5, 2) := by decide +kernel
theorem d_MO_rest_31 : decode c_MO_rest 31 = .ok (.iload 5, 2) := by decide +kernel
theorem d_MO_rest_33 : decode c_MO_rest 33 = .ok (.ifCond .eq 21, 3) := by decide +kernel
theorem d_MO_rest_36 : decode c_MO_rest 36 = .ok (.iload 4, 2) := by decide +kernel
theorem d_MO_rest_38 : decode c_MO_rest 38 = .ok (.ifCond .eq 12, 3) := by decide +kernel
theorem d_MO_rest_41 : decode c_MO_rest 41 = .ok (.aload_n 0, 1) := by decide +kernel
theorem d_MO_rest_42 : decode c_MO_rest 42 = .ok (.iload 4, 2) := by decide +kernel
theorem d_MO_rest_44 : decode c_MO_rest 44 = .ok (.invokevirtual 103, 3) := by decide +kernel
theorem d_MO_rest_47 : decode c_MO_rest 47 = .ok (.ifCond .eq 7, 3) := by decide +kernel
theorem d_MO_rest_50 : decode c_MO_rest 50 = .ok (.iconst 1, 1) := by decide +kernel
theorem d_MO_rest_51 : decode c_MO_rest 51 = .ok (.goto 4, 3) := by decide +kernel
theorem d_MO_rest_54 : decode c_MO_rest 54 = .ok (.iconst 0, 1) := by decide +kernel
theorem d_MO_rest_55 : decode c_MO_rest 55 = .ok (.ireturn, 1) := by decide +kernel
def ws_MO_rest : List Cond := .code y_MO_rest c_MO_rest 6 (some .boolean) :: TBL
theorem d_MO_string_0 : decode c_MO_string 0 = .ok (.aload_n 0, 1) := by decide +kernel
theorem d_MO_string_1 : decode c_MO_string 1 = .ok (.iconst 0, 1) := by decide +kernel
theorem d_MO_string_2 : decode c_MO_string 2 = .ok (.putfield 107, 3) := by decide +kernel
theorem d_MO_string_5 : decode c_MO_string 5 = .ok (.aload_n 0, 1) := by decide +kernel
theorem d_MO_string_6 : decode c_MO_string 6 = .ok (.getfield 96, 3) := by decide +kernel
theorem d_MO_string_9 : decode c_MO_string 9 = .ok (.aload_n 0, 1) := by decide +kernel
theorem d_MO_string_10 : decode c_MO_string 10 = .ok (.getfield 93, 3) := by decide +kernel
theorem d_MO_string_13 : decode c_MO_string 13 = .ok (.if_icmp .ge 89, 3) := by decide +kernel
theorem d_MO_string_16 : decode c_MO_string 16 = .ok (.aload_n 0, 1) := by decide +kernel
theorem d_MO_string_17 : decode c_MO_string 17 = .ok (.invokevirtual 99, 3) := by decide +kernel
theorem d_MO_string_20 : decode c_MO_string 20 = .ok (.iload_n 1, 1) := by decide +kernel
theorem d_MO_string_21 : decode c_MO_string 21 = .ok (.if_icmp .eq 81, 3) := by decide +kernel
theorem d_MO_string_24 : decode c_MO_string 24 = .ok (.aload_n 0, 1) := by decide +kernel
theorem d_MO_string_25 : decode c_MO_string 25 = .ok (.invokevirtual 99, 3) := by decide +kernel
theorem d_MO_string_28 : decode c_MO_string 28 = .ok (.istore_n 2, 1) := by decide +kernel
theorem d_MO_string_29 : decode c_MO_string 29 = .ok (.aload_n 0, 1) := by decide +kernel
theorem d_MO_string_30 : decode c_MO_string 30 = .ok (.dup, 1) := by decide +kernel
theorem d_MO_string_31 : decode c_MO_string 31 = .ok (.getfield 96, 3) := by decide +kernel
theorem d_MO_string_34 : decode c_MO_string 34 = .ok (.iconst 1, 1) := by decide +kernel
theorem d_MO_string_35 : decode c_MO_string 35 = .ok (.iadd, 1) := by decide +kernel
theorem d_MO_string_36 : decode c_MO_string 36 = .ok (.putfield 96, 3) := by decide +kernel
theorem d_MO_string_39 : decode c_MO_string 39 = .ok (.iload_n 2, 1) := by decide +kernel
theorem d_MO_string_40 : decode c_MO_string 40 = .ok (.bipush 92, 2) := by decide +kernel
theorem d_MO_string_42 : decode c_MO_string 42 = .ok (.if_icmp .ne 37, 3) := by decide +kernel
theorem d_MO_string_45 : decode c_MO_string 45 = .ok (.aload_n 0, 1) := by decide +kernel
theorem d_MO_string_46 : decode c_MO_string 46 = .ok (.invokevirtual 99, 3) := by decide +kernel
theorem d_MO_string_49 : decode c_MO_string 49 = .ok (.istore_n 2, 1) := by decide +kernel
theorem d_MO_string_50 : decode c_MO_string 50 = .ok (.aload_n 0, 1) := by decide +kernel
theorem d_MO_string_51 : decode c_MO_string 51 = .ok (.dup, 1) := by decide +kernel
theorem d_MO_string_52 : decode c_MO_string 52 = .ok (.getfield 96, 3) := by decide +kernel
theorem d_MO_string_55 : decode c_MO_string 55 = .ok (.iconst 1, 1) := by decide +kernel
theorem d_MO_string_56 : decode c_MO_string 56 = .ok (.iadd, 1) := by decide +kernel
theorem d_MO_string_57 : decode c_MO_string 57 = .ok (.putfield 96, 3) := by decide +kernel
theorem d_MO_string_60 : decode c_MO_string 60 = .ok (.iload_n 2, 1) := by decide +kernel
theorem d_MO_string_61 : decode c_MO_string 61 = .ok (.iload_n 1, 1) := by decide +kernel
theorem d_MO_string_62 : decode c_MO_string 62 = .ok (.if_icmp .eq 17, 3) := by decide +kernel
theorem d_MO_string_65 : decode c_MO_string 65 = .ok (.iload_n 2, 1) := by decide +kernel
theorem d_MO_string_66 : decode c_MO_string 66 = .ok (.bipush 92, 2) := by decide +kernel
theorem d_MO_string_68 : decode c_MO_string 68 = .ok (.if_icmp .eq 11, 3) := by decide +kernel
theorem d_MO_string_71 : decode c_MO_string 71 = .ok (.iload_n 2, 1) := by decide +kernel
theorem d_MO_string_72 : decode c_MO_string 72 = .ok (.bipush 47, 2) := by decide +kernel
theorem d_MO_string_74 : decode c_MO_string 74 = .ok (.if_icmp .eq 5, 3) := by decide +kernel
theorem d_MO_string_77 : decode c_MO_string 77 = .ok (.iconst 0, 1) := by decide +kernel
theorem d_MO_string_78 : decode c_MO_string 78 = .ok (.ireturn, 1) := by decide +kernel
theorem d_MO_string_79 : decode c_MO_string 79 = .ok (.aload_n 0, 1) := by decide +kernel
theorem d_MO_string_80 : decode c_MO_string 80 = .ok (.getfield 45, 3) := by decide +kernel
theorem d_MO_string_83 : decode c_MO_string 83 = .ok (.aload_n 0, 1) := by decide +kernel
theorem d_MO_string_84 : decode c_MO_string 84 = .ok (.getfield 107, 3) := by decide +kernel
theorem d_MO_string_87 : decode c_MO_string 87 = .ok (.iload_n 2, 1) := by decide +kernel
theorem d_MO_string_88 : decode c_MO_string 88 = .ok (.castore, 1) := by decide +kernel
theorem d_MO_string_89 : decode c_MO_string 89 = .ok (.aload_n 0, 1) := by decide +kernel
theorem d_MO_string_90 : decode c_MO_string 90 = .ok (.dup, 1) := by decide +kernel
theorem d_MO_string_91 : decode c_MO_string 91 = .ok (.getfield 107, 3) := by decide +kernel
theorem d_MO_string_94 : decode c_MO_string 94 = .ok (.iconst 1, 1) := by decide +kernel
theorem d_MO_string_95 : decode c_MO_string 95 = .ok (.iadd, 1) := by decide +kernel
theorem d_MO_string_96 : decode c_MO_string 96 = .ok (.putfield 107, 3) := by decide +kernel
theorem d_MO_string_99 : decode c_MO_string 99 = .ok (.goto (-94), 3) := by decide +kernel
theorem d_MO_string_102 : decode c_MO_string 102 = .ok (.aload_n 0, 1) := by decide +kernel
theorem d_MO_string_103 : decode c_MO_string 103 = .ok (.iload_n 1, 1) := by decide +kernel
theorem d_MO_string_104 : decode c_MO_string 104 = .ok (.invokevirtual 103, 3) := by decide +kernel
theorem d_MO_string_107 : decode c_MO_string 107 = .ok (.ireturn, 1) := by decide +kernel
def ws_MO_string : List Cond := .code y_MO_string c_MO_string 3 (some .boolean) :: TBL
theorem d_MO_newRow_0 : decode c_MO_newRow 0 = .ok (.sipush 384, 3) := by decide +kernel
theorem d_MO_newRow_3 : decode c_MO_newRow 3 = .ok (.aload_n 0, 1) := by decide +kernel
theorem d_MO_newRow_4 : decode c_MO_newRow 4 = .ok (.getfield 7, 3) := by decide +kernel
theorem d_MO_newRow_7 : decode c_MO_newRow 7 = .ok (.bipush 8, 2) := by decide +kernel
theorem d_MO_newRow_9 : decode c_MO_newRow 9 = .ok (.iaload, 1) := by decide +kernel
theorem d_MO_newRow_10 : decode c_MO_newRow 10 = .ok (.iadd, 1) := by decide +kernel
theorem d_MO_newRow_11 : decode c_MO_newRow 11 = .ok (.istore_n 2, 1) := by decide +kernel
theorem d_MO_newRow_12 : decode c_MO_newRow 12 = .ok (.aload_n 0, 1) := by decide +kernel
theorem d_MO_newRow_13 : decode c_MO_newRow 13 = .ok (.getfield 7, 3) := by decide +kernel
theorem d_MO_newRow_16 : decode c_MO_newRow 16 = .ok (.bipush 8, 2) := by decide +kernel
theorem d_MO_newRow_18 : decode c_MO_newRow 18 = .ok (.dup2, 1) := by decide +kernel
theorem d_MO_newRow_19 : decode c_MO_newRow 19 = .ok (.iaload, 1) := by decide +kernel
theorem d_MO_newRow_20 : decode c_MO_newRow 20 = .ok (.iconst 1, 1) := by decide +kernel
theorem d_MO_newRow_21 : decode c_MO_newRow 21 = .ok (.iadd, 1) := by decide +kernel
theorem d_MO_newRow_22 : decode c_MO_newRow 22 = .ok (.iastore, 1) := by decide +kernel
theorem d_MO_newRow_23 : decode c_MO_newRow 23 = .ok (.aload_n 0, 1) := by decide +kernel
theorem d_MO_newRow_24 : decode c_MO_newRow 24 = .ok (.getfield 13, 3) := by decide +kernel
theorem d_MO_newRow_27 : decode c_MO_newRow 27 = .ok (.iload_n 2, 1) := by decide +kernel
theorem d_MO_newRow_28 : decode c_MO_newRow 28 = .ok (.iload_n 1, 1) := by decide +kernel
theorem d_MO_newRow_29 : decode c_MO_newRow 29 = .ok (.iastore, 1) := by decide +kernel
theorem d_MO_newRow_30 : decode c_MO_newRow 30 = .ok (.aload_n 0, 1) := by decide +kernel
theorem d_MO_newRow_31 : decode c_MO_newRow 31 = .ok (.getfield 16, 3) := by decide +kernel
theorem d_MO_newRow_34 : decode c_MO_newRow 34 = .ok (.iload_n 2, 1) := by decide +kernel
theorem d_MO_newRow_35 : decode c_MO_newRow 35 = .ok (.aload_n 0, 1) := by decide +kernel
theorem d_MO_newRow_36 : decode c_MO_newRow 36 = .ok (.getfield 140, 3) := by decide +kernel
theorem d_MO_newRow_39 : decode c_MO_newRow 39 = .ok (.iastore, 1) := by decide +kernel
theorem d_MO_newRow_40 : decode c_MO_newRow 40 = .ok (.aload_n 0, 1) := by decide +kernel
theorem d_MO_newRow_41 : decode c_MO_newRow 41 = .ok (.getfield 31, 3) := by decide +kernel
theorem d_MO_newRow_44 : decode c_MO_newRow 44 = .ok (.iload_n 2, 1) := by decide +kernel
theorem d_MO_newRow_45 : decode c_MO_newRow 45 = .ok (.iload_n 1, 1) := by decide +kernel
theorem d_MO_newRow_46 : decode c_MO_newRow 46 = .ok (.iconst 3, 1) := by decide +kernel
theorem d_MO_newRow_47 : decode c_MO_newRow 47 = .ok (.if_icmp .ne 10, 3) := by decide +kernel
theorem d_MO_newRow_50 : decode c_MO_newRow 50 = .ok (.aload_n 0, 1) := by decide +kernel
theorem d_MO_newRow_51 : decode c_MO_newRow 51 = .ok (.getfield 117, 3) := by decide +kernel
theorem d_MO_newRow_54 : decode c_MO_newRow 54 = .ok (.goto 4, 3) := by decide +kernel
theorem d_MO_newRow_57 : decode c_MO_newRow 57 = .ok (.lconst 0, 1) := by decide +kernel
theorem d_MO_newRow_58 : decode c_MO_newRow 58 = .ok (.lastore, 1) := by decide +kernel
theorem d_MO_newRow_59 : decode c_MO_newRow 59 = .ok (.aload_n 0, 1) := by decide +kernel
theorem d_MO_newRow_60 : decode c_MO_newRow 60 = .ok (.getfield 19, 3) := by decide +kernel
theorem d_MO_newRow_63 : decode c_MO_newRow 63 = .ok (.iload_n 2, 1) := by decide +kernel
theorem d_MO_newRow_64 : decode c_MO_newRow 64 = .ok (.iload_n 1, 1) := by decide +kernel
theorem d_MO_newRow_65 : decode c_MO_newRow 65 = .ok (.iconst 4, 1) := by decide +kernel
theorem d_MO_newRow_66 : decode c_MO_newRow 66 = .ok (.if_icmp .ne 10, 3) := by decide +kernel
theorem d_MO_newRow_69 : decode c_MO_newRow 69 = .ok (.aload_n 0, 1) := by decide +kernel
theorem d_MO_newRow_70 : decode c_MO_newRow 70 = .ok (.invokevirtual 143, 3) := by decide +kernel
theorem d_MO_newRow_73 : decode c_MO_newRow 73 = .ok (.goto 4, 3) := by decide +kernel
theorem d_MO_newRow_76 : decode c_MO_newRow 76 = .ok (.iconst 0, 1) := by decide +kernel
theorem d_MO_newRow_77 : decode c_MO_newRow 77 = .ok (.iastore, 1) := by decide +kernel
theorem d_MO_newRow_78 : decode c_MO_newRow 78 = .ok (.aload_n 0, 1) := by decide +kernel
theorem d_MO_newRow_79 : decode c_MO_newRow 79 = .ok (.getfield 22, 3) := by decide +kernel
theorem d_MO_newRow_82 : decode c_MO_newRow 82 = .ok (.iload_n 2, 1) := by decide +kernel
theorem d_MO_newRow_83 : decode c_MO_newRow 83 = .ok (.iload_n 1, 1) := by decide +kernel
theorem d_MO_newRow_84 : decode c_MO_newRow 84 = .ok (.iconst 4, 1) := by decide +kernel
theorem d_MO_newRow_85 : decode c_MO_newRow 85 = .ok (.if_icmp .ne 10, 3) := by decide +kernel
theorem d_MO_newRow_88 : decode c_MO_newRow 88 = .ok (.aload_n 0, 1) := by decide +kernel
theorem d_MO_newRow_89 : decode c_MO_newRow 89 = .ok (.getfield 107, 3) := by decide +kernel
theorem d_MO_newRow_92 : decode c_MO_newRow 92 = .ok (.goto 4, 3) := by decide +kernel
theorem d_MO_newRow_95 : decode c_MO_newRow 95 = .ok (.iconst 0, 1) := by decide +kernel
theorem d_MO_newRow_96 : decode c_MO_newRow 96 = .ok (.iastore, 1) := by decide +kernel
theorem d_MO_newRow_97 : decode c_MO_newRow 97 = .ok (.aload_n 0, 1) := by decide +kernel
theorem d_MO_newRow_98 : decode c_MO_newRow 98 = .ok (.getfield 25, 3) := by decide +kernel
theorem d_MO_newRow_101 : decode c_MO_newRow 101 = .ok (.iload_n 2, 1) := by decide +kernel
theorem d_MO_newRow_102 : decode c_MO_newRow 102 = .ok (.aload_n 0, 1) := by decide +kernel
theorem d_MO_newRow_103 : decode c_MO_newRow 103 = .ok (.getfield 85, 3) := by decide +kernel
theorem d_MO_newRow_106 : decode c_MO_newRow 106 = .ok (.iastore, 1) := by decide +kernel
theorem d_MO_newRow_107 : decode c_MO_newRow 107 = .ok (.aload_n 0, 1) := by decide +kernel
theorem d_MO_newRow_108 : decode c_MO_newRow 108 = .ok (.getfield 28, 3) := by decide +kernel
theorem d_MO_newRow_111 : decode c_MO_newRow 111 = .ok (.iload_n 2, 1) := by decide +kernel
theorem d_MO_newRow_112 : decode c_MO_newRow 112 = .ok (.aload_n 0, 1) := by decide +kernel
theorem d_MO_newRow_113 : decode c_MO_newRow 113 = .ok (.getfield 88, 3) := by decide +kernel
theorem d_MO_newRow_116 : decode c_MO_newRow 116 = .ok (.iastore, 1) := by decide +kernel
theorem d_MO_newRow_117 : decode c_MO_newRow 117 = .ok (.aload_n 0, 1) := by decide +kernel
theorem d_MO_newRow_118 : decode c_MO_newRow 118 = .ok (.iconst (-1), 1) := by decide +kernel
theorem d_MO_newRow_119 : decode c_MO_newRow 119 = .ok (.putfield 88, 3) := by decide +kernel
theorem d_MO_newRow_122 : decode c_MO_newRow 122 = .ok (.iload_n 2, 1) := by decide +kernel
theorem d_MO_newRow_123 : decode c_MO_newRow 123 = .ok (.ireturn, 1) := by decide +kernel
def ws_MO_newRow : List Cond := .code y_MO_newRow c_MO_newRow 3 (some .int) :: TBL
theorem d_MO_keep_0 : decode c_MO_keep 0 = .ok (.iconst 0, 1) := by decide +kernel
theorem d_MO_keep_1 : decode c_MO_keep 1 = .ok (.istore_n 1, 1) := by decide +kernel
theorem d_MO_keep_2 : decode c_MO_keep 2 = .ok (.iload_n 1, 1) := by decide +kernel
theorem d_MO_keep_3 : decode c_MO_keep 3 = .ok (.aload_n 0, 1) := by decide +kernel
theorem d_MO_keep_4 : decode c_MO_keep 4 = .ok (.getfield 107, 3) := by decide +kernel
theorem d_MO_keep_7 : decode c_MO_keep 7 = .ok (.if_icmp .ge 26, 3) := by decide +kernel
theorem d_MO_keep_10 : decode c_MO_keep 10 = .ok (.aload_n 0, 1) := by decide +kernel
theorem d_MO_keep_11 : decode c_MO_keep 11 = .ok (.getfield 35, 3) := by decide +kernel
theorem d_MO_keep_14 : decode c_MO_keep 14 = .ok (.aload_n 0, 1) := by decide +kernel
theorem d_MO_keep_15 : decode c_MO_keep 15 = .ok (.getfield 137, 3) := by decide +kernel
theorem d_MO_keep_18 : decode c_MO_keep 18 = .ok (.iload_n 1, 1) := by decide +kernel
theorem d_MO_keep_19 : decode c_MO_keep 19 = .ok (.iadd, 1) := by decide +kernel
theorem d_MO_keep_20 : decode c_MO_keep 20 = .ok (.aload_n 0, 1) := by decide +kernel
theorem d_MO_keep_21 : decode c_MO_keep 21 = .ok (.getfield 45, 3) := by decide +kernel
theorem d_MO_keep_24 : decode c_MO_keep 24 = .ok (.iload_n 1, 1) := by decide +kernel
theorem d_MO_keep_25 : decode c_MO_keep 25 = .ok (.caload, 1) := by decide +kernel
theorem d_MO_keep_26 : decode c_MO_keep 26 = .ok (.castore, 1) := by decide +kernel
theorem d_MO_keep_27 : decode c_MO_keep 27 = .ok (.iinc 1 1, 3) := by decide +kernel
theorem d_MO_keep_30 : decode c_MO_keep 30 = .ok (.goto (-28), 3) := by decide +kernel
theorem d_MO_keep_33 : decode c_MO_keep 33 = .ok (.aload_n 0, 1) := by decide +kernel
theorem d_MO_keep_34 : decode c_MO_keep 34 = .ok (.aload_n 0, 1) := by decide +kernel
theorem d_MO_keep_35 : decode c_MO_keep 35 = .ok (.getfield 137, 3) := by decide +kernel
theorem d_MO_keep_38 : decode c_MO_keep 38 = .ok (.aload_n 0, 1) := by decide +kernel
theorem d_MO_keep_39 : decode c_MO_keep 39 = .ok (.getfield 107, 3) := by decide +kernel
theorem d_MO_keep_42 : decode c_MO_keep 42 = .ok (.iadd, 1) := by decide +kernel
theorem d_MO_keep_43 : decode c_MO_keep 43 = .ok (.putfield 137, 3) := by decide +kernel
theorem d_MO_keep_46 : decode c_MO_keep 46 = .ok (.aload_n 0, 1) := by decide +kernel
theorem d_MO_keep_47 : decode c_MO_keep 47 = .ok (.getfield 137, 3) := by decide +kernel
theorem d_MO_keep_50 : decode c_MO_keep 50 = .ok (.aload_n 0, 1) := by decide +kernel
theorem d_MO_keep_51 : decode c_MO_keep 51 = .ok (.getfield 107, 3) := by decide +kernel
theorem d_MO_keep_54 : decode c_MO_keep 54 = .ok (.isub, 1) := by decide +kernel
theorem d_MO_keep_55 : decode c_MO_keep 55 = .ok (.ireturn, 1) := by decide +kernel
def ws_MO_keep : List Cond := .code y_MO_keep c_MO_keep 2 (some .int) :: TBL
theorem d_MO_name_0 : decode c_MO_name 0 = .ok (.aload_n 0, 1) := by decide +kernel
theorem d_MO_name_1 : decode c_MO_name 1 = .ok (.bipush 34, 2) := by decide +kernel
theorem d_MO_name_3 : decode c_MO_name 3 = .ok (.invokevirtual 103, 3) := by decide +kernel
theorem d_MO_name_6 : decode c_MO_name 6 = .ok (.ifCond .eq 12, 3) := by decide +kernel
theorem d_MO_name_9 : decode c_MO_name 9 = .ok (.aload_n 0, 1) := by decide +kernel
theorem d_MO_name_10 : decode c_MO_name 10 = .ok (.bipush 34, 2) := by decide +kernel
theorem d_MO_name_12 : decode c_MO_name 12 = .ok (.invokevirtual 134, 3) := by decide +kernel
theorem d_MO_name_15 : decode c_MO_name 15 = .ok (.ifCond .ne 9, 3) := by decide +kernel
theorem d_MO_name_18 : decode c_MO_name 18 = .ok (.aload_n 0, 1) := by decide +kernel
theorem d_MO_name_19 : decode c_MO_name 19 = .ok (.iconst 1, 1) := by decide +kernel
theorem d_MO_name_20 : decode c_MO_name 20 = .ok (.putfield 147, 3) := by decide +kernel
theorem d_MO_name_23 : decode c_MO_name 23 = .ok (.return_, 1) := by decide +kernel
theorem d_MO_name_24 : decode c_MO_name 24 = .ok (.aload_n 0, 1) := by decide +kernel
theorem d_MO_name_25 : decode c_MO_name 25 = .ok (.bipush 8, 2) := by decide +kernel
theorem d_MO_name_27 : decode c_MO_name 27 = .ok (.aload_n 0, 1) := by decide +kernel
theorem d_MO_name_28 : decode c_MO_name 28 = .ok (.getfield 42, 3) := by decide +kernel
theorem d_MO_name_31 : decode c_MO_name 31 = .ok (.aload_n 0, 1) := by decide +kernel
theorem d_MO_name_32 : decode c_MO_name 32 = .ok (.getfield 140, 3) := by decide +kernel
theorem d_MO_name_35 : decode c_MO_name 35 = .ok (.iconst 1, 1) := by decide +kernel
theorem d_MO_name_36 : decode c_MO_name 36 = .ok (.isub, 1) := by decide +kernel
theorem d_MO_name_37 : decode c_MO_name 37 = .ok (.iaload, 1) := by decide +kernel
theorem d_MO_name_38 : decode c_MO_name 38 = .ok (.invokevirtual 170, 3) := by decide +kernel
theorem d_MO_name_41 : decode c_MO_name 41 = .ok (.ifCond .lt 9, 3) := by decide +kernel
theorem d_MO_name_44 : decode c_MO_name 44 = .ok (.aload_n 0, 1) := by decide +kernel
theorem d_MO_name_45 : decode c_MO_name 45 = .ok (.iconst 3, 1) := by decide +kernel
theorem d_MO_name_46 : decode c_MO_name 46 = .ok (.putfield 147, 3) := by decide +kernel
theorem d_MO_name_49 : decode c_MO_name 49 = .ok (.return_, 1) := by decide +kernel
theorem d_MO_name_50 : decode c_MO_name 50 = .ok (.aload_n 0, 1) := by decide +kernel
theorem d_MO_name_51 : decode c_MO_name 51 = .ok (.aload_n 0, 1) := by decide +kernel
theorem d_MO_name_52 : decode c_MO_name 52 = .ok (.getfield 107, 3) := by decide +kernel
theorem d_MO_name_55 : decode c_MO_name 55 = .ok (.putfield 88, 3) := by decide +kernel
theorem d_MO_name_58 : decode c_MO_name 58 = .ok (.aload_n 0, 1) := by decide +kernel
theorem d_MO_name_59 : decode c_MO_name 59 = .ok (.aload_n 0, 1) := by decide +kernel
theorem d_MO_name_60 : decode c_MO_name 60 = .ok (.invokevirtual 143, 3) := by decide +kernel
theorem d_MO_name_63 : decode c_MO_name 63 = .ok (.putfield 85, 3) := by decide +kernel
theorem d_MO_name_66 : decode c_MO_name 66 = .ok (.aload_n 0, 1) := by decide +kernel
theorem d_MO_name_67 : decode c_MO_name 67 = .ok (.invokevirtual 150, 3) := by decide +kernel
theorem d_MO_name_70 : decode c_MO_name 70 = .ok (.aload_n 0, 1) := by decide +kernel
theorem d_MO_name_71 : decode c_MO_name 71 = .ok (.bipush 58, 2) := by decide +kernel
theorem d_MO_name_73 : decode c_MO_name 73 = .ok (.invokevirtual 103, 3) := by decide +kernel
theorem d_MO_name_76 : decode c_MO_name 76 = .ok (.ifCond .ne 8, 3) := by decide +kernel
theorem d_MO_name_79 : decode c_MO_name 79 = .ok (.aload_n 0, 1) := by decide +kernel
theorem d_MO_name_80 : decode c_MO_name 80 = .ok (.iconst 1, 1) := by decide +kernel
theorem d_MO_name_81 : decode c_MO_name 81 = .ok (.putfield 147, 3) := by decide +kernel
theorem d_MO_name_84 : decode c_MO_name 84 = .ok (.return_, 1) := by decide +kernel
def ws_MO_name : List Cond := .code y_MO_name c_MO_name 1 none :: TBL
theorem d_MO_member_0 : decode c_MO_member 0 = .ok (.iload_n 2, 1) := by decide +kernel
theorem d_MO_member_1 : decode c_MO_member 1 = .ok (.ifCond .lt 14, 3) := by decide +kernel
theorem d_MO_member_4 : decode c_MO_member 4 = .ok (.aload_n 0, 1) := by decide +kernel
theorem d_MO_member_5 : decode c_MO_member 5 = .ok (.getfield 13, 3) := by decide +kernel
theorem d_MO_member_8 : decode c_MO_member 8 = .ok (.iload_n 2, 1) := by decide +kernel
theorem d_MO_member_9 : decode c_MO_member 9 = .ok (.iaload, 1) := by decide +kernel
theorem d_MO_member_10 : decode c_MO_member 10 = .ok (.bipush 6, 2) := by decide +kernel
theorem d_MO_member_12 : decode c_MO_member 12 = .ok (.if_icmp .eq 5, 3) := by decide +kernel
theorem d_MO_member_15 : decode c_MO_member 15 = .ok (.iconst (-1), 1) := by decide +kernel
theorem d_MO_member_16 : decode c_MO_member 16 = .ok (.ireturn, 1) := by decide +kernel
theorem d_MO_member_17 : decode c_MO_member 17 = .ok (.aload_n 0, 1) := by decide +kernel
theorem d_MO_member_18 : decode c_MO_member 18 = .ok (.iload_n 1, 1) := by decide +kernel
theorem d_MO_member_19 : decode c_MO_member 19 = .ok (.iload_n 2, 1) := by decide +kernel
theorem d_MO_member_20 : decode c_MO_member 20 = .ok (.invokevirtual 81, 3) := by decide +kernel
theorem d_MO_member_23 : decode c_MO_member 23 = .ok (.istore_n 3, 1) := by decide +kernel
theorem d_MO_member_24 : decode c_MO_member 24 = .ok (.iload_n 2, 1) := by decide +kernel
theorem d_MO_member_25 : decode c_MO_member 25 = .ok (.iconst 1, 1) := by decide +kernel
theorem d_MO_member_26 : decode c_MO_member 26 = .ok (.iadd, 1) := by decide +kernel
theorem d_MO_member_27 : decode c_MO_member 27 = .ok (.istore 4, 2) := by decide +kernel
theorem d_MO_member_29 : decode c_MO_member 29 = .ok (.iload 4, 2) := by decide +kernel
theorem d_MO_member_31 : decode c_MO_member 31 = .ok (.iload_n 3, 1) := by decide +kernel
theorem d_MO_member_32 : decode c_MO_member 32 = .ok (.if_icmp .ge 39, 3) := by decide +kernel
theorem d_MO_member_35 : decode c_MO_member 35 = .ok (.aload_n 0, 1) := by decide +kernel
theorem d_MO_member_36 : decode c_MO_member 36 = .ok (.aload_n 0, 1) := by decide +kernel
theorem d_MO_member_37 : decode c_MO_member 37 = .ok (.getfield 25, 3) := by decide +kernel
theorem d_MO_member_40 : decode c_MO_member 40 = .ok (.iload 4, 2) := by decide +kernel
theorem d_MO_member_42 : decode c_MO_member 42 = .ok (.iaload, 1) := by decide +kernel
theorem d_MO_member_43 : decode c_MO_member 43 = .ok (.aload_n 0, 1) := by decide +kernel
theorem d_MO_member_44 : decode c_MO_member 44 = .ok (.getfield 28, 3) := by decide +kernel
theorem d_MO_member_47 : decode c_MO_member 47 = .ok (.iload 4, 2) := by decide +kernel
theorem d_MO_member_49 : decode c_MO_member 49 = .ok (.iaload, 1) := by decide +kernel
theorem d_MO_member_50 : decode c_MO_member 50 = .ok (.invokevirtual 173, 3) := by decide +kernel
theorem d_MO_member_53 : decode c_MO_member 53 = .ok (.ifCond .eq 6, 3) := by decide +kernel
theorem d_MO_member_56 : decode c_MO_member 56 = .ok (.iload 4, 2) := by decide +kernel
theorem d_MO_member_58 : decode c_MO_member 58 = .ok (.ireturn, 1) := by decide +kernel
theorem d_MO_member_59 : decode c_MO_member 59 = .ok (.aload_n 0, 1) := by decide +kernel
theorem d_MO_member_60 : decode c_MO_member 60 = .ok (.iload_n 1, 1) := by decide +kernel
theorem d_MO_member_61 : decode c_MO_member 61 = .ok (.iload 4, 2) := by decide +kernel
theorem d_MO_member_63 : decode c_MO_member 63 = .ok (.invokevirtual 81, 3) := by decide +kernel
theorem d_MO_member_66 : decode c_MO_member 66 = .ok (.istore 4, 2) := by decide +kernel
theorem d_MO_member_68 : decode c_MO_member 68 = .ok (.goto (-39), 3) := by decide +kernel
theorem d_MO_member_71 : decode c_MO_member 71 = .ok (.iconst (-1), 1) := by decide +kernel
theorem d_MO_member_72 : decode c_MO_member 72 = .ok (.ireturn, 1) := by decide +kernel
def ws_MO_member : List Cond := .code y_MO_member c_MO_member 5 (some .int) :: TBL
theorem d_MO_behind_0 : decode c_MO_behind 0 = .ok (.iload_n 2, 1) := by decide +kernel
theorem d_MO_behind_1 : decode c_MO_behind 1 = .ok (.iconst 1, 1) := by decide +kernel
theorem d_MO_behind_2 : decode c_MO_behind 2 = .ok (.iadd, 1) := by decide +kernel
theorem d_MO_behind_3 : decode c_MO_behind 3 = .ok (.istore_n 3, 1) := by decide +kernel
theorem d_MO_behind_4 : decode c_MO_behind 4 = .ok (.iload_n 3, 1) := by decide +kernel
theorem d_MO_behind_5 : decode c_MO_behind 5 = .ok (.iload_n 1, 1) := by decide +kernel
theorem d_MO_behind_6 : decode c_MO_behind 6 = .ok (.invokestatic 73, 3) := by decide +kernel
theorem d_MO_behind_9 : decode c_MO_behind 9 = .ok (.aload_n 0, 1) := by decide +kernel
theorem d_MO_behind_10 : decode c_MO_behind 10 = .ok (.getfield 7, 3) := by decide +kernel
theorem d_MO_behind_13 : decode c_MO_behind 13 = .ok (.iload_n 1, 1) := by decide +kernel
theorem d_MO_behind_14 : decode c_MO_behind 14 = .ok (.iaload, 1) := by decide +kernel
theorem d_MO_behind_15 : decode c_MO_behind 15 = .ok (.iadd, 1) := by decide +kernel
theorem d_MO_behind_16 : decode c_MO_behind 16 = .ok (.if_icmp .ge 24, 3) := by decide +kernel
theorem d_MO_behind_19 : decode c_MO_behind 19 = .ok (.aload_n 0, 1) := by decide +kernel
theorem d_MO_behind_20 : decode c_MO_behind 20 = .ok (.getfield 16, 3) := by decide +kernel
theorem d_MO_behind_23 : decode c_MO_behind 23 = .ok (.iload_n 3, 1) := by decide +kernel
theorem d_MO_behind_24 : decode c_MO_behind 24 = .ok (.iaload, 1) := by decide +kernel
theorem d_MO_behind_25 : decode c_MO_behind 25 = .ok (.aload_n 0, 1) := by decide +kernel
theorem d_MO_behind_26 : decode c_MO_behind 26 = .ok (.getfield 16, 3) := by decide +kernel
theorem d_MO_behind_29 : decode c_MO_behind 29 = .ok (.iload_n 2, 1) := by decide +kernel
theorem d_MO_behind_30 : decode c_MO_behind 30 = .ok (.iaload, 1) := by decide +kernel
theorem d_MO_behind_31 : decode c_MO_behind 31 = .ok (.if_icmp .le 9, 3) := by decide +kernel
theorem d_MO_behind_34 : decode c_MO_behind 34 = .ok (.iinc 3 1, 3) := by decide +kernel
theorem d_MO_behind_37 : decode c_MO_behind 37 = .ok (.goto (-33), 3) := by decide +kernel
theorem d_MO_behind_40 : decode c_MO_behind 40 = .ok (.iload_n 3, 1) := by decide +kernel
theorem d_MO_behind_41 : decode c_MO_behind 41 = .ok (.ireturn, 1) := by decide +kernel
def ws_MO_behind : List Cond := .code y_MO_behind c_MO_behind 4 (some .int) :: TBL
theorem d_MO_base_0 : decode c_MO_base 0 = .ok (.iload_n 0, 1) := by decide +kernel
theorem d_MO_base_1 : decode c_MO_base 1 = .ok (.bipush 7, 2) := by decide +kernel
theorem d_MO_base_3 : decode c_MO_base 3 = .ok (.if_icmp .gt 10, 3) := by decide +kernel
theorem d_MO_base_6 : decode c_MO_base 6 = .ok (.bipush 32, 2) := by decide +kernel
theorem d_MO_base_8 : decode c_MO_base 8 = .ok (.iload_n 0, 1) := by decide +kernel
theorem d_MO_base_9 : decode c_MO_base 9 = .ok (.imul, 1) := by decide +kernel
theorem d_MO_base_10 : decode c_MO_base 10 = .ok (.goto 18, 3) := by decide +kernel
theorem d_MO_base_13 : decode c_MO_base 13 = .ok (.iload_n 0, 1) := by decide +kernel
theorem d_MO_base_14 : decode c_MO_base 14 = .ok (.bipush 8, 2) := by decide +kernel
theorem d_MO_base_16 : decode c_MO_base 16 = .ok (.if_icmp .ne 9, 3) := by decide +kernel
theorem d_MO_base_19 : decode c_MO_base 19 = .ok (.sipush 384, 3) := by decide +kernel
theorem d_MO_base_22 : decode c_MO_base 22 = .ok (.goto 6, 3) := by decide +kernel
theorem d_MO_base_25 : decode c_MO_base 25 = .ok (.sipush 480, 3) := by decide +kernel
theorem d_MO_base_28 : decode c_MO_base 28 = .ok (.ireturn, 1) := by decide +kernel
def ws_MO_base : List Cond := .code y_MO_base c_MO_base 1 (some .int) :: TBL
theorem d_MO_isWord_0 : decode c_MO_isWord 0 = .ok (.iload_n 2, 1) := by decide +kernel
theorem d_MO_isWord_1 : decode c_MO_isWord 1 = .ok (.aload_n 0, 1) := by decide +kernel
theorem d_MO_isWord_2 : decode c_MO_isWord 2 = .ok (.getfield 107, 3) := by decide +kernel
theorem d_MO_isWord_5 : decode c_MO_isWord 5 = .ok (.if_icmp .ne 7, 3) := by decide +kernel
theorem d_MO_isWord_8 : decode c_MO_isWord 8 = .ok (.iconst 1, 1) := by decide +kernel
theorem d_MO_isWord_9 : decode c_MO_isWord 9 = .ok (.goto 4, 3) := by decide +kernel
theorem d_MO_isWord_12 : decode c_MO_isWord 12 = .ok (.iconst 0, 1) := by decide +kernel
theorem d_MO_isWord_13 : decode c_MO_isWord 13 = .ok (.istore_n 3, 1) := by decide +kernel
theorem d_MO_isWord_14 : decode c_MO_isWord 14 = .ok (.iconst 0, 1) := by decide +kernel
theorem d_MO_isWord_15 : decode c_MO_isWord 15 = .ok (.istore 4, 2) := by decide +kernel
theorem d_MO_isWord_17 : decode c_MO_isWord 17 = .ok (.iload 4, 2) := by decide +kernel
theorem d_MO_isWord_19 : decode c_MO_isWord 19 = .ok (.iload_n 2, 1) := by decide +kernel
theorem d_MO_isWord_20 : decode c_MO_isWord 20 = .ok (.if_icmp .ge 38, 3) := by decide +kernel
theorem d_MO_isWord_23 : decode c_MO_isWord 23 = .ok (.iload_n 3, 1) := by decide +kernel
theorem d_MO_isWord_24 : decode c_MO_isWord 24 = .ok (.ifCond .eq 34, 3) := by decide +kernel
theorem d_MO_isWord_27 : decode c_MO_isWord 27 = .ok (.aload_n 0, 1) := by decide +kernel
theorem d_MO_isWord_28 : decode c_MO_isWord 28 = .ok (.getfield 35, 3) := by decide +kernel
theorem d_MO_isWord_31 : decode c_MO_isWord 31 = .ok (.iload_n 1, 1) := by decide +kernel
theorem d_MO_isWord_32 : decode c_MO_isWord 32 = .ok (.iload 4, 2) := by decide +kernel
theorem d_MO_isWord_34 : decode c_MO_isWord 34 = .ok (.iadd, 1) := by decide +kernel
theorem d_MO_isWord_35 : decode c_MO_isWord 35 = .ok (.caload, 1) := by decide +kernel
theorem d_MO_isWord_36 : decode c_MO_isWord 36 = .ok (.aload_n 0, 1) := by decide +kernel
theorem d_MO_isWord_37 : decode c_MO_isWord 37 = .ok (.getfield 45, 3) := by decide +kernel
theorem d_MO_isWord_40 : decode c_MO_isWord 40 = .ok (.iload 4, 2) := by decide +kernel
theorem d_MO_isWord_42 : decode c_MO_isWord 42 = .ok (.caload, 1) := by decide +kernel
theorem d_MO_isWord_43 : decode c_MO_isWord 43 = .ok (.if_icmp .ne 7, 3) := by decide +kernel
theorem d_MO_isWord_46 : decode c_MO_isWord 46 = .ok (.iconst 1, 1) := by decide +kernel
theorem d_MO_isWord_47 : decode c_MO_isWord 47 = .ok (.goto 4, 3) := by decide +kernel
theorem d_MO_isWord_50 : decode c_MO_isWord 50 = .ok (.iconst 0, 1) := by decide +kernel
theorem d_MO_isWord_51 : decode c_MO_isWord 51 = .ok (.istore_n 3, 1) := by decide +kernel
theorem d_MO_isWord_52 : decode c_MO_isWord 52 = .ok (.iinc 4 1, 3) := by decide +kernel
theorem d_MO_isWord_55 : decode c_MO_isWord 55 = .ok (.goto (-38), 3) := by decide +kernel
theorem d_MO_isWord_58 : decode c_MO_isWord 58 = .ok (.iload_n 3, 1) := by decide +kernel
theorem d_MO_isWord_59 : decode c_MO_isWord 59 = .ok (.ireturn, 1) := by decide +kernel
def ws_MO_isWord : List Cond := .code y_MO_isWord c_MO_isWord 5 (some .boolean) :: TBL
theorem d_MO_connect_0 : decode c_MO_connect 0 = .ok (.aload_n 0, 1) := by decide +kernel
theorem d_MO_connect_1 : decode c_MO_connect 1 = .ok (.getfield 13, 3) := by decide +kernel
theorem d_MO_connect_4 : decode c_MO_connect 4 = .ok (.aload_n 0, 1) := by decide +kernel
theorem d_MO_connect_5 : decode c_MO_connect 5 = .ok (.getfield 42, 3) := by decide +kernel
theorem d_MO_connect_8 : decode c_MO_connect 8 = .ok (.aload_n 0, 1) := by decide +kernel
theorem d_MO_connect_9 : decode c_MO_connect 9 = .ok (.getfield 140, 3) := by decide +kernel
theorem d_MO_connect_12 : decode c_MO_connect 12 = .ok (.iconst 1, 1) := by decide +kernel
theorem d_MO_connect_13 : decode c_MO_connect 13 = .ok (.isub, 1) := by decide +kernel
theorem d_MO_connect_14 : decode c_MO_connect 14 = .ok (.iaload, 1) := by decide +kernel
theorem d_MO_connect_15 : decode c_MO_connect 15 = .ok (.iaload, 1) := by decide +kernel
theorem d_MO_connect_16 : decode c_MO_connect 16 = .ok (.istore_n 1, 1) := by decide +kernel
theorem d_MO_connect_17 : decode c_MO_connect 17 = .ok (.aload_n 0, 1) := by decide +kernel
theorem d_MO_connect_18 : decode c_MO_connect 18 = .ok (.iload_n 1, 1) := by decide +kernel
theorem d_MO_connect_19 : decode c_MO_connect 19 = .ok (.iconst 5, 1) := by decide +kernel
theorem d_MO_connect_20 : decode c_MO_connect 20 = .ok (.if_icmp .ne 8, 3) := by decide +kernel
theorem d_MO_connect_23 : decode c_MO_connect 23 = .ok (.bipush 93, 2) := by decide +kernel
theorem d_MO_connect_25 : decode c_MO_connect 25 = .ok (.goto 5, 3) := by decide +kernel
theorem d_MO_connect_28 : decode c_MO_connect 28 = .ok (.bipush 125, 2) := by decide +kernel
theorem d_MO_connect_30 : decode c_MO_connect 30 = .ok (.invokevirtual 103, 3) := by decide +kernel
theorem d_MO_connect_33 : decode c_MO_connect 33 = .ok (.ifCond .eq 15, 3) := by decide +kernel
theorem d_MO_connect_36 : decode c_MO_connect 36 = .ok (.aload_n 0, 1) := by decide +kernel
theorem d_MO_connect_37 : decode c_MO_connect 37 = .ok (.dup, 1) := by decide +kernel
theorem d_MO_connect_38 : decode c_MO_connect 38 = .ok (.getfield 140, 3) := by decide +kernel
theorem d_MO_connect_41 : decode c_MO_connect 41 = .ok (.iconst 1, 1) := by decide +kernel
theorem d_MO_connect_42 : decode c_MO_connect 42 = .ok (.isub, 1) := by decide +kernel
theorem d_MO_connect_43 : decode c_MO_connect 43 = .ok (.putfield 140, 3) := by decide +kernel
theorem d_MO_connect_46 : decode c_MO_connect 46 = .ok (.iconst 0, 1) := by decide +kernel
theorem d_MO_connect_47 : decode c_MO_connect 47 = .ok (.ireturn, 1) := by decide +kernel
theorem d_MO_connect_48 : decode c_MO_connect 48 = .ok (.aload_n 0, 1) := by decide +kernel
theorem d_MO_connect_49 : decode c_MO_connect 49 = .ok (.bipush 44, 2) := by decide +kernel
theorem d_MO_connect_51 : decode c_MO_connect 51 = .ok (.invokevirtual 103, 3) := by decide +kernel
theorem d_MO_connect_54 : decode c_MO_connect 54 = .ok (.ifCond .ne 10, 3) := by decide +kernel
theorem d_MO_connect_57 : decode c_MO_connect 57 = .ok (.aload_n 0, 1) := by decide +kernel
theorem d_MO_connect_58 : decode c_MO_connect 58 = .ok (.iconst 1, 1) := by decide +kernel
theorem d_MO_connect_59 : decode c_MO_connect 59 = .ok (.putfield 147, 3) := by decide +kernel
theorem d_MO_connect_62 : decode c_MO_connect 62 = .ok (.iconst 0, 1) := by decide +kernel
theorem d_MO_connect_63 : decode c_MO_connect 63 = .ok (.ireturn, 1) := by decide +kernel
theorem d_MO_connect_64 : decode c_MO_connect 64 = .ok (.aload_n 0, 1) := by decide +kernel
theorem d_MO_connect_65 : decode c_MO_connect 65 = .ok (.invokevirtual 150, 3) := by decide +kernel
theorem d_MO_connect_68 : decode c_MO_connect 68 = .ok (.iload_n 1, 1) := by decide +kernel
theorem d_MO_connect_69 : decode c_MO_connect 69 = .ok (.bipush 6, 2) := by decide +kernel
theorem d_MO_connect_71 : decode c_MO_connect 71 = .ok (.if_icmp .ne 7, 3) := by decide +kernel
theorem d_MO_connect_74 : decode c_MO_connect 74 = .ok (.aload_n 0, 1) := by decide +kernel
theorem d_MO_connect_75 : decode c_MO_connect 75 = .ok (.invokevirtual 167, 3) := by decide +kernel
theorem d_MO_connect_78 : decode c_MO_connect 78 = .ok (.iconst 1, 1) := by decide +kernel
theorem d_MO_connect_79 : decode c_MO_connect 79 = .ok (.ireturn, 1) := by decide +kernel
def ws_MO_connect : List Cond := .code y_MO_connect c_MO_connect 2 (some .boolean) :: TBL
theorem d_MO_copyTree_0 : decode c_MO_copyTree 0 = .ok (.aload_n 0, 1) := by decide +kernel
theorem d_MO_copyTree_1 : decode c_MO_copyTree 1 = .ok (.getfield 7, 3) := by decide +kernel
theorem d_MO_copyTree_4 : decode c_MO_copyTree 4 = .ok (.iload_n 2, 1) := by decide +kernel
theorem d_MO_copyTree_5 : decode c_MO_copyTree 5 = .ok (.aload_n 0, 1) := by decide +kernel
theorem d_MO_copyTree_6 : decode c_MO_copyTree 6 = .ok (.getfield 7, 3) := by decide +kernel
theorem d_MO_copyTree_9 : decode c_MO_copyTree 9 = .ok (.iload_n 1, 1) := by decide +kernel
theorem d_MO_copyTree_10 : decode c_MO_copyTree 10 = .ok (.iaload, 1) := by decide +kernel
theorem d_MO_copyTree_11 : decode c_MO_copyTree 11 = .ok (.iastore, 1) := by decide +kernel
theorem d_MO_copyTree_12 : decode c_MO_copyTree 12 = .ok (.iconst 0, 1) := by decide +kernel
theorem d_MO_copyTree_13 : decode c_MO_copyTree 13 = .ok (.istore_n 3, 1) := by decide +kernel
theorem d_MO_copyTree_14 : decode c_MO_copyTree 14 = .ok (.iload_n 3, 1) := by decide +kernel
theorem d_MO_copyTree_15 : decode c_MO_copyTree 15 = .ok (.aload_n 0, 1) := by decide +kernel
theorem d_MO_copyTree_16 : decode c_MO_copyTree 16 = .ok (.getfield 7, 3) := by decide +kernel
theorem d_MO_copyTree_19 : decode c_MO_copyTree 19 = .ok (.iload_n 1, 1) := by decide +kernel
theorem d_MO_copyTree_20 : decode c_MO_copyTree 20 = .ok (.iaload, 1) := by decide +kernel
theorem d_MO_copyTree_21 : decode c_MO_copyTree 21 = .ok (.if_icmp .ge 25, 3) := by decide +kernel
theorem d_MO_copyTree_24 : decode c_MO_copyTree 24 = .ok (.aload_n 0, 1) := by decide +kernel
theorem d_MO_copyTree_25 : decode c_MO_copyTree 25 = .ok (.iload_n 1, 1) := by decide +kernel
theorem d_MO_copyTree_26 : decode c_MO_copyTree 26 = .ok (.invokestatic 73, 3) := by decide +kernel
theorem d_MO_copyTree_29 : decode c_MO_copyTree 29 = .ok (.iload_n 3, 1) := by decide +kernel
theorem d_MO_copyTree_30 : decode c_MO_copyTree 30 = .ok (.iadd, 1) := by decide +kernel
theorem d_MO_copyTree_31 : decode c_MO_copyTree 31 = .ok (.iload_n 2, 1) := by decide +kernel
theorem d_MO_copyTree_32 : decode c_MO_copyTree 32 = .ok (.invokestatic 73, 3) := by decide +kernel
theorem d_MO_copyTree_35 : decode c_MO_copyTree 35 = .ok (.iload_n 3, 1) := by decide +kernel
theorem d_MO_copyTree_36 : decode c_MO_copyTree 36 = .ok (.iadd, 1) := by decide +kernel
theorem d_MO_copyTree_37 : decode c_MO_copyTree 37 = .ok (.invokevirtual 77, 3) := by decide +kernel
theorem d_MO_copyTree_40 : decode c_MO_copyTree 40 = .ok (.iinc 3 1, 3) := by decide +kernel
theorem d_MO_copyTree_43 : decode c_MO_copyTree 43 = .ok (.goto (-29), 3) := by decide +kernel
theorem d_MO_copyTree_46 : decode c_MO_copyTree 46 = .ok (.return_, 1) := by decide +kernel
def ws_MO_copyTree : List Cond := .code y_MO_copyTree c_MO_copyTree 4 none :: TBL
theorem d_MO_copyRow_0 : decode c_MO_copyRow 0 = .ok (.aload_n 0, 1) := by decide +kernel
theorem d_MO_copyRow_1 : decode c_MO_copyRow 1 = .ok (.getfield 13, 3) := by decide +kernel
theorem d_MO_copyRow_4 : decode c_MO_copyRow 4 = .ok (.iload_n 2, 1) := by decide +kernel
theorem d_MO_copyRow_5 : decode c_MO_copyRow 5 = .ok (.aload_n 0, 1) := by decide +kernel
theorem d_MO_copyRow_6 : decode c_MO_copyRow 6 = .ok (.getfield 13, 3) := by decide +kernel
theorem d_MO_copyRow_9 : decode c_MO_copyRow 9 = .ok (.iload_n 1, 1) := by decide +kernel
theorem d_MO_copyRow_10 : decode c_MO_copyRow 10 = .ok (.iaload, 1) := by decide +kernel
theorem d_MO_copyRow_11 : decode c_MO_copyRow 11 = .ok (.iastore, 1) := by decide +kernel
theorem d_MO_copyRow_12 : decode c_MO_copyRow 12 = .ok (.aload_n 0, 1) := by decide +kernel
theorem d_MO_copyRow_13 : decode c_MO_copyRow 13 = .ok (.getfield 16, 3) := by decide +kernel
theorem d_MO_copyRow_16 : decode c_MO_copyRow 16 = .ok (.iload_n 2, 1) := by decide +kernel
theorem d_MO_copyRow_17 : decode c_MO_copyRow 17 = .ok (.aload_n 0, 1) := by decide +kernel
theorem d_MO_copyRow_18 : decode c_MO_copyRow 18 = .ok (.getfield 16, 3) := by decide +kernel
theorem d_MO_copyRow_21 : decode c_MO_copyRow 21 = .ok (.iload_n 1, 1) := by decide +kernel
theorem d_MO_copyRow_22 : decode c_MO_copyRow 22 = .ok (.iaload, 1) := by decide +kernel
theorem d_MO_copyRow_23 : decode c_MO_copyRow 23 = .ok (.iastore, 1) := by decide +kernel
theorem d_MO_copyRow_24 : decode c_MO_copyRow 24 = .ok (.aload_n 0, 1) := by decide +kernel
theorem d_MO_copyRow_25 : decode c_MO_copyRow 25 = .ok (.getfield 31, 3) := by decide +kernel
theorem d_MO_copyRow_28 : decode c_MO_copyRow 28 = .ok (.iload_n 2, 1) := by decide +kernel
theorem d_MO_copyRow_29 : decode c_MO_copyRow 29 = .ok (.aload_n 0, 1) := by decide +kernel
theorem d_MO_copyRow_30 : decode c_MO_copyRow 30 = .ok (.getfield 31, 3) := by decide +kernel
theorem d_MO_copyRow_33 : decode c_MO_copyRow 33 = .ok (.iload_n 1, 1) := by decide +kernel
theorem d_MO_copyRow_34 : decode c_MO_copyRow 34 = .ok (.laload, 1) := by decide +kernel
theorem d_MO_copyRow_35 : decode c_MO_copyRow 35 = .ok (.lastore, 1) := by decide +kernel
theorem d_MO_copyRow_36 : decode c_MO_copyRow 36 = .ok (.aload_n 0, 1) := by decide +kernel
theorem d_MO_copyRow_37 : decode c_MO_copyRow 37 = .ok (.getfield 19, 3) := by decide +kernel
theorem d_MO_copyRow_40 : decode c_MO_copyRow 40 = .ok (.iload_n 2, 1) := by decide +kernel
theorem d_MO_copyRow_41 : decode c_MO_copyRow 41 = .ok (.aload_n 0, 1) := by decide +kernel
theorem d_MO_copyRow_42 : decode c_MO_copyRow 42 = .ok (.getfield 19, 3) := by decide +kernel
theorem d_MO_copyRow_45 : decode c_MO_copyRow 45 = .ok (.iload_n 1, 1) := by decide +kernel
theorem d_MO_copyRow_46 : decode c_MO_copyRow 46 = .ok (.iaload, 1) := by decide +kernel
theorem d_MO_copyRow_47 : decode c_MO_copyRow 47 = .ok (.iastore, 1) := by decide +kernel
theorem d_MO_copyRow_48 : decode c_MO_copyRow 48 = .ok (.aload_n 0, 1) := by decide +kernel
theorem d_MO_copyRow_49 : decode c_MO_copyRow 49 = .ok (.getfield 22, 3) := by decide +kernel
theorem d_MO_copyRow_52 : decode c_MO_copyRow 52 = .ok (.iload_n 2, 1) := by decide +kernel
theorem d_MO_copyRow_53 : decode c_MO_copyRow 53 = .ok (.aload_n 0, 1) := by decide +kernel
theorem d_MO_copyRow_54 : decode c_MO_copyRow 54 = .ok (.getfield 22, 3) := by decide +kernel
theorem d_MO_copyRow_57 : decode c_MO_copyRow 57 = .ok (.iload_n 1, 1) := by decide +kernel
theorem d_MO_copyRow_58 : decode c_MO_copyRow 58 = .ok (.iaload, 1) := by decide +kernel
theorem d_MO_copyRow_59 : decode c_MO_copyRow 59 = .ok (.iastore, 1) := by decide +kernel
theorem d_MO_copyRow_60 : decode c_MO_copyRow 60 = .ok (.aload_n 0, 1) := by decide +kernel
theorem d_MO_copyRow_61 : decode c_MO_copyRow 61 = .ok (.getfield 25, 3) := by decide +kernel
theorem d_MO_copyRow_64 : decode c_MO_copyRow 64 = .ok (.iload_n 2, 1) := by decide +kernel
theorem d_MO_copyRow_65 : decode c_MO_copyRow 65 = .ok (.aload_n 0, 1) := by decide +kernel
theorem d_MO_copyRow_66 : decode c_MO_copyRow 66 = .ok (.getfield 25, 3) := by decide +kernel
theorem d_MO_copyRow_69 : decode c_MO_copyRow 69 = .ok (.iload_n 1, 1) := by decide +kernel
theorem d_MO_copyRow_70 : decode c_MO_copyRow 70 = .ok (.iaload, 1) := by decide +kernel
theorem d_MO_copyRow_71 : decode c_MO_copyRow 71 = .ok (.iastore, 1) := by decide +kernel
theorem d_MO_copyRow_72 : decode c_MO_copyRow 72 = .ok (.aload_n 0, 1) := by decide +kernel
theorem d_MO_copyRow_73 : decode c_MO_copyRow 73 = .ok (.getfield 28, 3) := by decide +kernel
theorem d_MO_copyRow_76 : decode c_MO_copyRow 76 = .ok (.iload_n 2, 1) := by decide +kernel
theorem d_MO_copyRow_77 : decode c_MO_copyRow 77 = .ok (.aload_n 0, 1) := by decide +kernel
theorem d_MO_copyRow_78 : decode c_MO_copyRow 78 = .ok (.getfield 28, 3) := by decide +kernel
theorem d_MO_copyRow_81 : decode c_MO_copyRow 81 = .ok (.iload_n 1, 1) := by decide +kernel
theorem d_MO_copyRow_82 : decode c_MO_copyRow 82 = .ok (.iaload, 1) := by decide +kernel
theorem d_MO_copyRow_83 : decode c_MO_copyRow 83 = .ok (.iastore, 1) := by decide +kernel
theorem d_MO_copyRow_84 : decode c_MO_copyRow 84 = .ok (.return_, 1) := by decide +kernel
def ws_MO_copyRow : List Cond := .code y_MO_copyRow c_MO_copyRow 3 none :: TBL
theorem d_MO_delete_0 : decode c_MO_delete 0 = .ok (.iload_n 1, 1) := by decide +kernel
theorem d_MO_delete_1 : decode c_MO_delete 1 = .ok (.invokestatic 184, 3) := by decide +kernel
theorem d_MO_delete_4 : decode c_MO_delete 4 = .ok (.ifCond .eq 12, 3) := by decide +kernel
theorem d_MO_delete_7 : decode c_MO_delete 7 = .ok (.aload_n 0, 1) := by decide +kernel
theorem d_MO_delete_8 : decode c_MO_delete 8 = .ok (.getfield 7, 3) := by decide +kernel
theorem d_MO_delete_11 : decode c_MO_delete 11 = .ok (.iload_n 1, 1) := by decide +kernel
theorem d_MO_delete_12 : decode c_MO_delete 12 = .ok (.iaload, 1) := by decide +kernel
theorem d_MO_delete_13 : decode c_MO_delete 13 = .ok (.ifCond .ne 5, 3) := by decide +kernel
theorem d_MO_delete_16 : decode c_MO_delete 16 = .ok (.iconst 0, 1) := by decide +kernel
theorem d_MO_delete_17 : decode c_MO_delete 17 = .ok (.ireturn, 1) := by decide +kernel
theorem d_MO_delete_18 : decode c_MO_delete 18 = .ok (.aload_n 0, 1) := by decide +kernel
theorem d_MO_delete_19 : decode c_MO_delete 19 = .ok (.getfield 7, 3) := by decide +kernel
theorem d_MO_delete_22 : decode c_MO_delete 22 = .ok (.iload_n 1, 1) := by decide +kernel
theorem d_MO_delete_23 : decode c_MO_delete 23 = .ok (.iconst 0, 1) := by decide +kernel
theorem d_MO_delete_24 : decode c_MO_delete 24 = .ok (.iastore, 1) := by decide +kernel
theorem d_MO_delete_25 : decode c_MO_delete 25 = .ok (.iconst 1, 1) := by decide +kernel
theorem d_MO_delete_26 : decode c_MO_delete 26 = .ok (.ireturn, 1) := by decide +kernel
def ws_MO_delete : List Cond := .code y_MO_delete c_MO_delete 2 (some .boolean) :: TBL
theorem d_MO_commit_0 : decode c_MO_commit 0 = .ok (.iconst 0, 1) := by decide +kernel
theorem d_MO_commit_1 : decode c_MO_commit 1 = .ok (.istore_n 1, 1) := by decide +kernel
theorem d_MO_commit_2 : decode c_MO_commit 2 = .ok (.iload_n 1, 1) := by decide +kernel
theorem d_MO_commit_3 : decode c_MO_commit 3 = .ok (.iconst 3, 1) := by decide +kernel
theorem d_MO_commit_4 : decode c_MO_commit 4 = .ok (.if_icmp .ge 17, 3) := by decide +kernel
theorem d_MO_commit_7 : decode c_MO_commit 7 = .ok (.aload_n 0, 1) := by decide +kernel
theorem d_MO_commit_8 : decode c_MO_commit 8 = .ok (.iload_n 1, 1) := by decide +kernel
theorem d_MO_commit_9 : decode c_MO_commit 9 = .ok (.iconst 3, 1) := by decide +kernel
theorem d_MO_commit_10 : decode c_MO_commit 10 = .ok (.iload_n 1, 1) := by decide +kernel
theorem d_MO_commit_11 : decode c_MO_commit 11 = .ok (.iadd, 1) := by decide +kernel
theorem d_MO_commit_12 : decode c_MO_commit 12 = .ok (.invokevirtual 190, 3) := by decide +kernel
theorem d_MO_commit_15 : decode c_MO_commit 15 = .ok (.iinc 1 1, 3) := by decide +kernel
theorem d_MO_commit_18 : decode c_MO_commit 18 = .ok (.goto (-16), 3) := by decide +kernel
theorem d_MO_commit_21 : decode c_MO_commit 21 = .ok (.return_, 1) := by decide +kernel
def ws_MO_commit : List Cond := .code y_MO_commit c_MO_commit 2 none :: TBL
theorem d_MO_crash_0 : decode c_MO_crash 0 = .ok (.iconst 0, 1) := by decide +kernel
theorem d_MO_crash_1 : decode c_MO_crash 1 = .ok (.istore_n 1, 1) := by decide +kernel
theorem d_MO_crash_2 : decode c_MO_crash 2 = .ok (.iload_n 1, 1) := by decide +kernel
theorem d_MO_crash_3 : decode c_MO_crash 3 = .ok (.iconst 3, 1) := by decide +kernel
theorem d_MO_crash_4 : decode c_MO_crash 4 = .ok (.if_icmp .ge 17, 3) := by decide +kernel
theorem d_MO_crash_7 : decode c_MO_crash 7 = .ok (.aload_n 0, 1) := by decide +kernel
theorem d_MO_crash_8 : decode c_MO_crash 8 = .ok (.iconst 3, 1) := by decide +kernel
theorem d_MO_crash_9 : decode c_MO_crash 9 = .ok (.iload_n 1, 1) := by decide +kernel
theorem d_MO_crash_10 : decode c_MO_crash 10 = .ok (.iadd, 1) := by decide +kernel
theorem d_MO_crash_11 : decode c_MO_crash 11 = .ok (.iload_n 1, 1) := by decide +kernel
theorem d_MO_crash_12 : decode c_MO_crash 12 = .ok (.invokevirtual 190, 3) := by decide +kernel
theorem d_MO_crash_15 : decode c_MO_crash 15 = .ok (.iinc 1 1, 3) := by decide +kernel
theorem d_MO_crash_18 : decode c_MO_crash 18 = .ok (.goto (-16), 3) := by decide +kernel
theorem d_MO_crash_21 : decode c_MO_crash 21 = .ok (.aload_n 0, 1) := by decide +kernel
theorem d_MO_crash_22 : decode c_MO_crash 22 = .ok (.iconst 0, 1) := by decide +kernel
theorem d_MO_crash_23 : decode c_MO_crash 23 = .ok (.putfield 93, 3) := by decide +kernel
theorem d_MO_crash_26 : decode c_MO_crash 26 = .ok (.aload_n 0, 1) := by decide +kernel
theorem d_MO_crash_27 : decode c_MO_crash 27 = .ok (.iconst 0, 1) := by decide +kernel
theorem d_MO_crash_28 : decode c_MO_crash 28 = .ok (.putfield 193, 3) := by decide +kernel
theorem d_MO_crash_31 : decode c_MO_crash 31 = .ok (.return_, 1) := by decide +kernel
def ws_MO_crash : List Cond := .code y_MO_crash c_MO_crash 2 none :: TBL
theorem d_MO_patch_0 : decode c_MO_patch 0 = .ok (.iconst (-1), 1) := by decide +kernel
theorem d_MO_patch_1 : decode c_MO_patch 1 = .ok (.istore_n 2, 1) := by decide +kernel
theorem d_MO_patch_2 : decode c_MO_patch 2 = .ok (.iload_n 1, 1) := by decide +kernel
theorem d_MO_patch_3 : decode c_MO_patch 3 = .ok (.invokestatic 184, 3) := by decide +kernel
theorem d_MO_patch_6 : decode c_MO_patch 6 = .ok (.ifCond .eq 18, 3) := by decide +kernel
theorem d_MO_patch_9 : decode c_MO_patch 9 = .ok (.aload_n 0, 1) := by decide +kernel
theorem d_MO_patch_10 : decode c_MO_patch 10 = .ok (.getfield 7, 3) := by decide +kernel
theorem d_MO_patch_13 : decode c_MO_patch 13 = .ok (.iload_n 1, 1) := by decide +kernel
theorem d_MO_patch_14 : decode c_MO_patch 14 = .ok (.iaload, 1) := by decide +kernel
theorem d_MO_patch_15 : decode c_MO_patch 15 = .ok (.ifCond .le 9, 3) := by decide +kernel
theorem d_MO_patch_18 : decode c_MO_patch 18 = .ok (.aload_n 0, 1) := by decide +kernel
theorem d_MO_patch_19 : decode c_MO_patch 19 = .ok (.iload_n 1, 1) := by decide +kernel
theorem d_MO_patch_20 : decode c_MO_patch 20 = .ok (.invokevirtual 209, 3) := by decide +kernel
theorem d_MO_patch_23 : decode c_MO_patch 23 = .ok (.istore_n 2, 1) := by decide +kernel
theorem d_MO_patch_24 : decode c_MO_patch 24 = .ok (.aload_n 0, 1) := by decide +kernel
theorem d_MO_patch_25 : decode c_MO_patch 25 = .ok (.iconst 0, 1) := by decide +kernel
theorem d_MO_patch_26 : decode c_MO_patch 26 = .ok (.putfield 93, 3) := by decide +kernel
theorem d_MO_patch_29 : decode c_MO_patch 29 = .ok (.iload_n 2, 1) := by decide +kernel
theorem d_MO_patch_30 : decode c_MO_patch 30 = .ok (.ireturn, 1) := by decide +kernel
def ws_MO_patch : List Cond := .code y_MO_patch c_MO_patch 3 (some .int) :: TBL
theorem d_MO_change_0 : decode c_MO_change 0 = .ok (.aload_n 0, 1) := by decide +kernel
theorem d_MO_change_1 : decode c_MO_change 1 = .ok (.aload_n 0, 1) := by decide +kernel
theorem d_MO_change_2 : decode c_MO_change 2 = .ok (.getfield 66, 3) := by decide +kernel
theorem d_MO_change_5 : decode c_MO_change 5 = .ok (.iconst 2, 1) := by decide +kernel
theorem d_MO_change_6 : decode c_MO_change 6 = .ok (.iadd, 1) := by decide +kernel
theorem d_MO_change_7 : decode c_MO_change 7 = .ok (.invokevirtual 187, 3) := by decide +kernel
theorem d_MO_change_10 : decode c_MO_change 10 = .ok (.istore_n 2, 1) := by decide +kernel
theorem d_MO_change_11 : decode c_MO_change 11 = .ok (.iload_n 2, 1) := by decide +kernel
theorem d_MO_change_12 : decode c_MO_change 12 = .ok (.ifCond .eq 5, 3) := by decide +kernel
theorem d_MO_change_15 : decode c_MO_change 15 = .ok (.iload_n 2, 1) := by decide +kernel
theorem d_MO_change_16 : decode c_MO_change 16 = .ok (.ireturn, 1) := by decide +kernel
theorem d_MO_change_17 : decode c_MO_change 17 = .ok (.aload_n 0, 1) := by decide +kernel
theorem d_MO_change_18 : decode c_MO_change 18 = .ok (.getfield 13, 3) := by decide +kernel
theorem d_MO_change_21 : decode c_MO_change 21 = .ok (.sipush 384, 3) := by decide +kernel
theorem d_MO_change_24 : decode c_MO_change 24 = .ok (.iaload, 1) := by decide +kernel
theorem d_MO_change_25 : decode c_MO_change 25 = .ok (.iconst 5, 1) := by decide +kernel
theorem d_MO_change_26 : decode c_MO_change 26 = .ok (.if_icmp .eq 5, 3) := by decide +kernel
theorem d_MO_change_29 : decode c_MO_change 29 = .ok (.iconst 5, 1) := by decide +kernel
theorem d_MO_change_30 : decode c_MO_change 30 = .ok (.ireturn, 1) := by decide +kernel
theorem d_MO_change_31 : decode c_MO_change 31 = .ok (.sipush 384, 3) := by decide +kernel
theorem d_MO_change_34 : decode c_MO_change 34 = .ok (.aload_n 0, 1) := by decide +kernel
theorem d_MO_change_35 : decode c_MO_change 35 = .ok (.getfield 7, 3) := by decide +kernel
theorem d_MO_change_38 : decode c_MO_change 38 = .ok (.bipush 8, 2) := by decide +kernel
theorem d_MO_change_40 : decode c_MO_change 40 = .ok (.iaload, 1) := by decide +kernel
theorem d_MO_change_41 : decode c_MO_change 41 = .ok (.iadd, 1) := by decide +kernel
theorem d_MO_change_42 : decode c_MO_change 42 = .ok (.istore_n 3, 1) := by decide +kernel
theorem d_MO_change_43 : decode c_MO_change 43 = .ok (.sipush 385, 3) := by decide +kernel
theorem d_MO_change_46 : decode c_MO_change 46 = .ok (.istore 4, 2) := by decide +kernel
theorem d_MO_change_48 : decode c_MO_change 48 = .ok (.iload 4, 2) := by decide +kernel
theorem d_MO_change_50 : decode c_MO_change 50 = .ok (.iload_n 3, 1) := by decide +kernel
theorem d_MO_change_51 : decode c_MO_change 51 = .ok (.if_icmp .ge 27, 3) := by decide +kernel
theorem d_MO_change_54 : decode c_MO_change 54 = .ok (.aload_n 0, 1) := by decide +kernel
theorem d_MO_change_55 : decode c_MO_change 55 = .ok (.iload 4, 2) := by decide +kernel
theorem d_MO_change_57 : decode c_MO_change 57 = .ok (.invokevirtual 212, 3) := by decide +kernel
theorem d_MO_change_60 : decode c_MO_change 60 = .ok (.ifCond .ne 5, 3) := by decide +kernel
theorem d_MO_change_63 : decode c_MO_change 63 = .ok (.iconst 5, 1) := by decide +kernel
theorem d_MO_change_64 : decode c_MO_change 64 = .ok (.ireturn, 1) := by decide +kernel
theorem d_MO_change_65 : decode c_MO_change 65 = .ok (.aload_n 0, 1) := by decide +kernel
theorem d_MO_change_66 : decode c_MO_change 66 = .ok (.bipush 8, 2) := by decide +kernel
theorem d_MO_change_68 : decode c_MO_change 68 = .ok (.iload 4, 2) := by decide +kernel
theorem d_MO_change_70 : decode c_MO_change 70 = .ok (.invokevirtual 81, 3) := by decide +kernel
theorem d_MO_change_73 : decode c_MO_change 73 = .ok (.istore 4, 2) := by decide +kernel
theorem d_MO_change_75 : decode c_MO_change 75 = .ok (.goto (-27), 3) := by decide +kernel
theorem d_MO_change_78 : decode c_MO_change 78 = .ok (.aload_n 0, 1) := by decide +kernel
theorem d_MO_change_79 : decode c_MO_change 79 = .ok (.iload_n 1, 1) := by decide +kernel
theorem d_MO_change_80 : decode c_MO_change 80 = .ok (.bipush 7, 2) := by decide +kernel
theorem d_MO_change_82 : decode c_MO_change 82 = .ok (.invokevirtual 190, 3) := by decide +kernel
theorem d_MO_change_85 : decode c_MO_change 85 = .ok (.sipush 385, 3) := by decide +kernel
theorem d_MO_change_88 : decode c_MO_change 88 = .ok (.istore 4, 2) := by decide +kernel
theorem d_MO_change_90 : decode c_MO_change 90 = .ok (.iload 4, 2) := by decide +kernel
theorem d_MO_change_92 : decode c_MO_change 92 = .ok (.iload_n 3, 1) := by decide +kernel
theorem d_MO_change_93 : decode c_MO_change 93 = .ok (.if_icmp .ge 81, 3) := by decide +kernel
theorem d_MO_change_96 : decode c_MO_change 96 = .ok (.aload_n 0, 1) := by decide +kernel
theorem d_MO_change_97 : decode c_MO_change 97 = .ok (.iload 4, 2) := by decide +kernel
theorem d_MO_change_99 : decode c_MO_change 99 = .ok (.invokevirtual 215, 3) := by decide +kernel
theorem d_MO_change_102 : decode c_MO_change 102 = .ok (.istore 5, 2) := by decide +kernel
theorem d_MO_change_104 : decode c_MO_change 104 = .ok (.iload 5, 2) := by decide +kernel
theorem d_MO_change_106 : decode c_MO_change 106 = .ok (.ifCond .ne 20, 3) := by decide +kernel
theorem d_MO_change_109 : decode c_MO_change 109 = .ok (.aload_n 0, 1) := by decide +kernel
theorem d_MO_change_110 : decode c_MO_change 110 = .ok (.bipush 7, 2) := by decide +kernel
theorem d_MO_change_112 : decode c_MO_change 112 = .ok (.invokevirtual 218, 3) := by decide +kernel
theorem d_MO_change_115 : decode c_MO_change 115 = .ok (.aload_n 0, 1) := by decide +kernel
theorem d_MO_change_116 : decode c_MO_change 116 = .ok (.getfield 66, 3) := by decide +kernel
theorem d_MO_change_119 : decode c_MO_change 119 = .ok (.if_icmp .le 7, 3) := by decide +kernel
theorem d_MO_change_122 : decode c_MO_change 122 = .ok (.iconst 2, 1) := by decide +kernel
theorem d_MO_change_123 : decode c_MO_change 123 = .ok (.goto 28, 3) := by decide +kernel
theorem d_MO_change_126 : decode c_MO_change 126 = .ok (.iload 5, 2) := by decide +kernel
theorem d_MO_change_128 : decode c_MO_change 128 = .ok (.ifCond .ne 21, 3) := by decide +kernel
theorem d_MO_change_131 : decode c_MO_change 131 = .ok (.aload_n 0, 1) := by decide +kernel
theorem d_MO_change_132 : decode c_MO_change 132 = .ok (.getfield 7, 3) := by decide +kernel
theorem d_MO_change_135 : decode c_MO_change 135 = .ok (.bipush 7, 2) := by decide +kernel
theorem d_MO_change_137 : decode c_MO_change 137 = .ok (.iaload, 1) := by decide +kernel
theorem d_MO_change_138 : decode c_MO_change 138 = .ok (.aload_n 0, 1) := by decide +kernel
theorem d_MO_change_139 : decode c_MO_change 139 = .ok (.getfield 70, 3) := by decide +kernel
theorem d_MO_change_142 : decode c_MO_change 142 = .ok (.if_icmp .le 7, 3) := by decide +kernel
theorem d_MO_change_145 : decode c_MO_change 145 = .ok (.iconst 4, 1) := by decide +kernel
theorem d_MO_change_146 : decode c_MO_change 146 = .ok (.goto 5, 3) := by decide +kernel
theorem d_MO_change_149 : decode c_MO_change 149 = .ok (.iload 5, 2) := by decide +kernel
theorem d_MO_change_151 : decode c_MO_change 151 = .ok (.istore 5, 2) := by decide +kernel
theorem d_MO_change_153 : decode c_MO_change 153 = .ok (.iload 5, 2) := by decide +kernel
theorem d_MO_change_155 : decode c_MO_change 155 = .ok (.ifCond .eq 6, 3) := by decide +kernel
theorem d_MO_change_158 : decode c_MO_change 158 = .ok (.iload 5, 2) := by decide +kernel
theorem d_MO_change_160 : decode c_MO_change 160 = .ok (.ireturn, 1) := by decide +kernel
theorem d_MO_change_161 : decode c_MO_change 161 = .ok (.aload_n 0, 1) := by decide +kernel
theorem d_MO_change_162 : decode c_MO_change 162 = .ok (.bipush 8, 2) := by decide +kernel
theorem d_MO_change_164 : decode c_MO_change 164 = .ok (.iload 4, 2) := by decide +kernel
theorem d_MO_change_166 : decode c_MO_change 166 = .ok (.invokevirtual 81, 3) := by decide +kernel
theorem d_MO_change_169 : decode c_MO_change 169 = .ok (.istore 4, 2) := by decide +kernel
theorem d_MO_change_171 : decode c_MO_change 171 = .ok (.goto (-81), 3) := by decide +kernel
theorem d_MO_change_174 : decode c_MO_change 174 = .ok (.aload_n 0, 1) := by decide +kernel
theorem d_MO_change_175 : decode c_MO_change 175 = .ok (.bipush 7, 2) := by decide +kernel
theorem d_MO_change_177 : decode c_MO_change 177 = .ok (.iload_n 1, 1) := by decide +kernel
theorem d_MO_change_178 : decode c_MO_change 178 = .ok (.invokevirtual 190, 3) := by decide +kernel
theorem d_MO_change_181 : decode c_MO_change 181 = .ok (.iconst 0, 1) := by decide +kernel
theorem d_MO_change_182 : decode c_MO_change 182 = .ok (.ireturn, 1) := by decide +kernel
def ws_MO_change : List Cond := .code y_MO_change c_MO_change 6 (some .int) :: TBL
theorem d_MO_fits_0 : decode c_MO_fits 0 = .ok (.aload_n 0, 1) := by decide +kernel
theorem d_MO_fits_1 : decode c_MO_fits 1 = .ok (.getfield 13, 3) := by decide +kernel
theorem d_MO_fits_4 : decode c_MO_fits 4 = .ok (.iload_n 1, 1) := by decide +kernel
theorem d_MO_fits_5 : decode c_MO_fits 5 = .ok (.iaload, 1) := by decide +kernel
theorem d_MO_fits_6 : decode c_MO_fits 6 = .ok (.bipush 6, 2) := by decide +kernel
theorem d_MO_fits_8 : decode c_MO_fits 8 = .ok (.if_icmp .eq 5, 3) := by decide +kernel
theorem d_MO_fits_11 : decode c_MO_fits 11 = .ok (.iconst 0, 1) := by decide +kernel
theorem d_MO_fits_12 : decode c_MO_fits 12 = .ok (.ireturn, 1) := by decide +kernel
theorem d_MO_fits_13 : decode c_MO_fits 13 = .ok (.aload_n 0, 1) := by decide +kernel
theorem d_MO_fits_14 : decode c_MO_fits 14 = .ok (.iload_n 1, 1) := by decide +kernel
theorem d_MO_fits_15 : decode c_MO_fits 15 = .ok (.iconst 0, 1) := by decide +kernel
theorem d_MO_fits_16 : decode c_MO_fits 16 = .ok (.invokevirtual 200, 3) := by decide +kernel
theorem d_MO_fits_19 : decode c_MO_fits 19 = .ok (.istore_n 2, 1) := by decide +kernel
theorem d_MO_fits_20 : decode c_MO_fits 20 = .ok (.aload_n 0, 1) := by decide +kernel
theorem d_MO_fits_21 : decode c_MO_fits 21 = .ok (.iload_n 2, 1) := by decide +kernel
theorem d_MO_fits_22 : decode c_MO_fits 22 = .ok (.invokevirtual 203, 3) := by decide +kernel
theorem d_MO_fits_25 : decode c_MO_fits 25 = .ok (.istore_n 3, 1) := by decide +kernel
theorem d_MO_fits_26 : decode c_MO_fits 26 = .ok (.aload_n 0, 1) := by decide +kernel
theorem d_MO_fits_27 : decode c_MO_fits 27 = .ok (.iload_n 1, 1) := by decide +kernel
theorem d_MO_fits_28 : decode c_MO_fits 28 = .ok (.iconst 1, 1) := by decide +kernel
theorem d_MO_fits_29 : decode c_MO_fits 29 = .ok (.invokevirtual 200, 3) := by decide +kernel
theorem d_MO_fits_32 : decode c_MO_fits 32 = .ok (.istore 4, 2) := by decide +kernel
theorem d_MO_fits_34 : decode c_MO_fits 34 = .ok (.iload_n 3, 1) := by decide +kernel
theorem d_MO_fits_35 : decode c_MO_fits 35 = .ok (.ifCond .eq 12, 3) := by decide +kernel
theorem d_MO_fits_38 : decode c_MO_fits 38 = .ok (.aload_n 0, 1) := by decide +kernel
theorem d_MO_fits_39 : decode c_MO_fits 39 = .ok (.iload 4, 2) := by decide +kernel
theorem d_MO_fits_41 : decode c_MO_fits 41 = .ok (.invokevirtual 206, 3) := by decide +kernel
theorem d_MO_fits_44 : decode c_MO_fits 44 = .ok (.ifCond .ne 5, 3) := by decide +kernel
theorem d_MO_fits_47 : decode c_MO_fits 47 = .ok (.iconst 0, 1) := by decide +kernel
theorem d_MO_fits_48 : decode c_MO_fits 48 = .ok (.ireturn, 1) := by decide +kernel
theorem d_MO_fits_49 : decode c_MO_fits 49 = .ok (.iload_n 3, 1) := by decide +kernel
theorem d_MO_fits_50 : decode c_MO_fits 50 = .ok (.iconst 4, 1) := by decide +kernel
theorem d_MO_fits_51 : decode c_MO_fits 51 = .ok (.if_icmp .eq 8, 3) := by decide +kernel
theorem d_MO_fits_54 : decode c_MO_fits 54 = .ok (.iload_n 3, 1) := by decide +kernel
theorem d_MO_fits_55 : decode c_MO_fits 55 = .ok (.iconst 5, 1) := by decide +kernel
theorem d_MO_fits_56 : decode c_MO_fits 56 = .ok (.if_icmp .ne 14, 3) := by decide +kernel
theorem d_MO_fits_59 : decode c_MO_fits 59 = .ok (.aload_n 0, 1) := by decide +kernel
theorem d_MO_fits_60 : decode c_MO_fits 60 = .ok (.aload_n 0, 1) := by decide +kernel
theorem d_MO_fits_61 : decode c_MO_fits 61 = .ok (.iload_n 1, 1) := by decide +kernel
theorem d_MO_fits_62 : decode c_MO_fits 62 = .ok (.iconst 3, 1) := by decide +kernel
theorem d_MO_fits_63 : decode c_MO_fits 63 = .ok (.invokevirtual 200, 3) := by decide +kernel
theorem d_MO_fits_66 : decode c_MO_fits 66 = .ok (.invokevirtual 206, 3) := by decide +kernel
theorem d_MO_fits_69 : decode c_MO_fits 69 = .ok (.ireturn, 1) := by decide +kernel
theorem d_MO_fits_70 : decode c_MO_fits 70 = .ok (.iload_n 3, 1) := by decide +kernel
theorem d_MO_fits_71 : decode c_MO_fits 71 = .ok (.iconst 2, 1) := by decide +kernel
theorem d_MO_fits_72 : decode c_MO_fits 72 = .ok (.if_icmp .eq 12, 3) := by decide +kernel
theorem d_MO_fits_75 : decode c_MO_fits 75 = .ok (.aload_n 0, 1) := by decide +kernel
theorem d_MO_fits_76 : decode c_MO_fits 76 = .ok (.iload_n 1, 1) := by decide +kernel
theorem d_MO_fits_77 : decode c_MO_fits 77 = .ok (.iconst 2, 1) := by decide +kernel
theorem d_MO_fits_78 : decode c_MO_fits 78 = .ok (.invokevirtual 200, 3) := by decide +kernel
theorem d_MO_fits_81 : decode c_MO_fits 81 = .ok (.ifCond .lt 7, 3) := by decide +kernel
theorem d_MO_fits_84 : decode c_MO_fits 84 = .ok (.iconst 1, 1) := by decide +kernel
theorem d_MO_fits_85 : decode c_MO_fits 85 = .ok (.goto 4, 3) := by decide +kernel
theorem d_MO_fits_88 : decode c_MO_fits 88 = .ok (.iconst 0, 1) := by decide +kernel
theorem d_MO_fits_89 : decode c_MO_fits 89 = .ok (.ireturn, 1) := by decide +kernel
def ws_MO_fits : List Cond := .code y_MO_fits c_MO_fits 5 (some .boolean) :: TBL
theorem d_MO_part_0 : decode c_MO_part 0 = .ok (.iload_n 2, 1) := by decide +kernel
theorem d_MO_part_1 : decode c_MO_part 1 = .ok (.ifCond .ne 14, 3) := by decide +kernel
theorem d_MO_part_4 : decode c_MO_part 4 = .ok (.aload_n 0, 1) := by decide +kernel
theorem d_MO_part_5 : decode c_MO_part 5 = .ok (.bipush 111, 2) := by decide +kernel
theorem d_MO_part_7 : decode c_MO_part 7 = .ok (.bipush 112, 2) := by decide +kernel
theorem d_MO_part_9 : decode c_MO_part 9 = .ok (.iconst 0, 1) := by decide +kernel
theorem d_MO_part_10 : decode c_MO_part 10 = .ok (.iconst 0, 1) := by decide +kernel
theorem d_MO_part_11 : decode c_MO_part 11 = .ok (.iconst 0, 1) := by decide +kernel
theorem d_MO_part_12 : decode c_MO_part 12 = .ok (.invokevirtual 196, 3) := by decide +kernel
theorem d_MO_part_15 : decode c_MO_part 15 = .ok (.iload_n 2, 1) := by decide +kernel
theorem d_MO_part_16 : decode c_MO_part 16 = .ok (.iconst 1, 1) := by decide +kernel
theorem d_MO_part_17 : decode c_MO_part 17 = .ok (.if_icmp .ne 16, 3) := by decide +kernel
theorem d_MO_part_20 : decode c_MO_part 20 = .ok (.aload_n 0, 1) := by decide +kernel
theorem d_MO_part_21 : decode c_MO_part 21 = .ok (.bipush 112, 2) := by decide +kernel
theorem d_MO_part_23 : decode c_MO_part 23 = .ok (.bipush 97, 2) := by decide +kernel
theorem d_MO_part_25 : decode c_MO_part 25 = .ok (.bipush 116, 2) := by decide +kernel
theorem d_MO_part_27 : decode c_MO_part 27 = .ok (.bipush 104, 2) := by decide +kernel
theorem d_MO_part_29 : decode c_MO_part 29 = .ok (.iconst 0, 1) := by decide +kernel
theorem d_MO_part_30 : decode c_MO_part 30 = .ok (.invokevirtual 196, 3) := by decide +kernel
theorem d_MO_part_33 : decode c_MO_part 33 = .ok (.iload_n 2, 1) := by decide +kernel
theorem d_MO_part_34 : decode c_MO_part 34 = .ok (.iconst 2, 1) := by decide +kernel
theorem d_MO_part_35 : decode c_MO_part 35 = .ok (.if_icmp .ne 17, 3) := by decide +kernel
theorem d_MO_part_38 : decode c_MO_part 38 = .ok (.aload_n 0, 1) := by decide +kernel
theorem d_MO_part_39 : decode c_MO_part 39 = .ok (.bipush 118, 2) := by decide +kernel
theorem d_MO_part_41 : decode c_MO_part 41 = .ok (.bipush 97, 2) := by decide +kernel
theorem d_MO_part_43 : decode c_MO_part 43 = .ok (.bipush 108, 2) := by decide +kernel
theorem d_MO_part_45 : decode c_MO_part 45 = .ok (.bipush 117, 2) := by decide +kernel
theorem d_MO_part_47 : decode c_MO_part 47 = .ok (.bipush 101, 2) := by decide +kernel
theorem d_MO_part_49 : decode c_MO_part 49 = .ok (.invokevirtual 196, 3) := by decide +kernel
theorem d_MO_part_52 : decode c_MO_part 52 = .ok (.iload_n 2, 1) := by decide +kernel
theorem d_MO_part_53 : decode c_MO_part 53 = .ok (.iconst 3, 1) := by decide +kernel
theorem d_MO_part_54 : decode c_MO_part 54 = .ok (.if_icmp .ne 16, 3) := by decide +kernel
theorem d_MO_part_57 : decode c_MO_part 57 = .ok (.aload_n 0, 1) := by decide +kernel
theorem d_MO_part_58 : decode c_MO_part 58 = .ok (.bipush 102, 2) := by decide +kernel
theorem d_MO_part_60 : decode c_MO_part 60 = .ok (.bipush 114, 2) := by decide +kernel
theorem d_MO_part_62 : decode c_MO_part 62 = .ok (.bipush 111, 2) := by decide +kernel
theorem d_MO_part_64 : decode c_MO_part 64 = .ok (.bipush 109, 2) := by decide +kernel
theorem d_MO_part_66 : decode c_MO_part 66 = .ok (.iconst 0, 1) := by decide +kernel
theorem d_MO_part_67 : decode c_MO_part 67 = .ok (.invokevirtual 196, 3) := by decide +kernel
theorem d_MO_part_70 : decode c_MO_part 70 = .ok (.aload_n 0, 1) := by decide +kernel
theorem d_MO_part_71 : decode c_MO_part 71 = .ok (.bipush 8, 2) := by decide +kernel
theorem d_MO_part_73 : decode c_MO_part 73 = .ok (.iload_n 1, 1) := by decide +kernel
theorem d_MO_part_74 : decode c_MO_part 74 = .ok (.invokevirtual 170, 3) := by decide +kernel
theorem d_MO_part_77 : decode c_MO_part 77 = .ok (.ireturn, 1) := by decide +kernel
def ws_MO_part : List Cond := .code y_MO_part c_MO_part 3 (some .int) :: TBL
theorem d_MO_say_0 : decode c_MO_say 0 = .ok (.aload_n 0, 1) := by decide +kernel
theorem d_MO_say_1 : decode c_MO_say 1 = .ok (.getfield 45, 3) := by decide +kernel
theorem d_MO_say_4 : decode c_MO_say 4 = .ok (.iconst 0, 1) := by decide +kernel
theorem d_MO_say_5 : decode c_MO_say 5 = .ok (.iload_n 1, 1) := by decide +kernel
theorem d_MO_say_6 : decode c_MO_say 6 = .ok (.castore, 1) := by decide +kernel
theorem d_MO_say_7 : decode c_MO_say 7 = .ok (.aload_n 0, 1) := by decide +kernel
theorem d_MO_say_8 : decode c_MO_say 8 = .ok (.getfield 45, 3) := by decide +kernel
theorem d_MO_say_11 : decode c_MO_say 11 = .ok (.iconst 1, 1) := by decide +kernel
theorem d_MO_say_12 : decode c_MO_say 12 = .ok (.iload_n 2, 1) := by decide +kernel
theorem d_MO_say_13 : decode c_MO_say 13 = .ok (.castore, 1) := by decide +kernel
theorem d_MO_say_14 : decode c_MO_say 14 = .ok (.aload_n 0, 1) := by decide +kernel
theorem d_MO_say_15 : decode c_MO_say 15 = .ok (.getfield 45, 3) := by decide +kernel
theorem d_MO_say_18 : decode c_MO_say 18 = .ok (.iconst 2, 1) := by decide +kernel
theorem d_MO_say_19 : decode c_MO_say 19 = .ok (.iload_n 3, 1) := by decide +kernel
theorem d_MO_say_20 : decode c_MO_say 20 = .ok (.castore, 1) := by decide +kernel
theorem d_MO_say_21 : decode c_MO_say 21 = .ok (.aload_n 0, 1) := by decide +kernel
theorem d_MO_say_22 : decode c_MO_say 22 = .ok (.getfield 45, 3) := by decide +kernel
theorem d_MO_say_25 : decode c_MO_say 25 = .ok (.iconst 3, 1) := by decide +kernel
theorem d_MO_say_26 : decode c_MO_say 26 = .ok (.iload 4, 2) := by decide +kernel
theorem d_MO_say_28 : decode c_MO_say 28 = .ok (.castore, 1) := by decide +kernel
theorem d_MO_say_29 : decode c_MO_say 29 = .ok (.aload_n 0, 1) := by decide +kernel
theorem d_MO_say_30 : decode c_MO_say 30 = .ok (.getfield 45, 3) := by decide +kernel
theorem d_MO_say_33 : decode c_MO_say 33 = .ok (.iconst 4, 1) := by decide +kernel
theorem d_MO_say_34 : decode c_MO_say 34 = .ok (.iload 5, 2) := by decide +kernel
theorem d_MO_say_36 : decode c_MO_say 36 = .ok (.castore, 1) := by decide +kernel
theorem d_MO_say_37 : decode c_MO_say 37 = .ok (.aload_n 0, 1) := by decide +kernel
theorem d_MO_say_38 : decode c_MO_say 38 = .ok (.iload 5, 2) := by decide +kernel
theorem d_MO_say_40 : decode c_MO_say 40 = .ok (.ifCond .eq 7, 3) := by decide +kernel
theorem d_MO_say_43 : decode c_MO_say 43 = .ok (.iconst 5, 1) := by decide +kernel
theorem d_MO_say_44 : decode c_MO_say 44 = .ok (.goto 21, 3) := by decide +kernel
theorem d_MO_say_47 : decode c_MO_say 47 = .ok (.iload 4, 2) := by decide +kernel
theorem d_MO_say_49 : decode c_MO_say 49 = .ok (.ifCond .eq 7, 3) := by decide +kernel
theorem d_MO_say_52 : decode c_MO_say 52 = .ok (.iconst 4, 1) := by decide +kernel
theorem d_MO_say_53 : decode c_MO_say 53 = .ok (.goto 12, 3) := by decide +kernel
theorem d_MO_say_56 : decode c_MO_say 56 = .ok (.iload_n 3, 1) := by decide +kernel
theorem d_MO_say_57 : decode c_MO_say 57 = .ok (.ifCond .eq 7, 3) := by decide +kernel
theorem d_MO_say_60 : decode c_MO_say 60 = .ok (.iconst 3, 1) := by decide +kernel
theorem d_MO_say_61 : decode c_MO_say 61 = .ok (.goto 4, 3) := by decide +kernel
theorem d_MO_say_64 : decode c_MO_say 64 = .ok (.iconst 2, 1) := by decide +kernel
theorem d_MO_say_65 : decode c_MO_say 65 = .ok (.putfield 107, 3) := by decide +kernel
theorem d_MO_say_68 : decode c_MO_say 68 = .ok (.return_, 1) := by decide +kernel
def ws_MO_say : List Cond := .code y_MO_say c_MO_say 6 none :: TBL
theorem d_MO_verb_0 : decode c_MO_verb 0 = .ok (.iload_n 1, 1) := by decide +kernel
theorem d_MO_verb_1 : decode c_MO_verb 1 = .ok (.ifCond .lt 13, 3) := by decide +kernel
theorem d_MO_verb_4 : decode c_MO_verb 4 = .ok (.aload_n 0, 1) := by decide +kernel
theorem d_MO_verb_5 : decode c_MO_verb 5 = .ok (.getfield 13, 3) := by decide +kernel
theorem d_MO_verb_8 : decode c_MO_verb 8 = .ok (.iload_n 1, 1) := by decide +kernel
theorem d_MO_verb_9 : decode c_MO_verb 9 = .ok (.iaload, 1) := by decide +kernel
theorem d_MO_verb_10 : decode c_MO_verb 10 = .ok (.iconst 4, 1) := by decide +kernel
theorem d_MO_verb_11 : decode c_MO_verb 11 = .ok (.if_icmp .eq 5, 3) := by decide +kernel
theorem d_MO_verb_14 : decode c_MO_verb 14 = .ok (.iconst 0, 1) := by decide +kernel
theorem d_MO_verb_15 : decode c_MO_verb 15 = .ok (.ireturn, 1) := by decide +kernel
theorem d_MO_verb_16 : decode c_MO_verb 16 = .ok (.aload_n 0, 1) := by decide +kernel
theorem d_MO_verb_17 : decode c_MO_verb 17 = .ok (.getfield 19, 3) := by decide +kernel
theorem d_MO_verb_20 : decode c_MO_verb 20 = .ok (.iload_n 1, 1) := by decide +kernel
theorem d_MO_verb_21 : decode c_MO_verb 21 = .ok (.iaload, 1) := by decide +kernel
theorem d_MO_verb_22 : decode c_MO_verb 22 = .ok (.istore_n 2, 1) := by decide +kernel
theorem d_MO_verb_23 : decode c_MO_verb 23 = .ok (.aload_n 0, 1) := by decide +kernel
theorem d_MO_verb_24 : decode c_MO_verb 24 = .ok (.getfield 22, 3) := by decide +kernel
theorem d_MO_verb_27 : decode c_MO_verb 27 = .ok (.iload_n 1, 1) := by decide +kernel
theorem d_MO_verb_28 : decode c_MO_verb 28 = .ok (.iaload, 1) := by decide +kernel
theorem d_MO_verb_29 : decode c_MO_verb 29 = .ok (.istore_n 3, 1) := by decide +kernel
theorem d_MO_verb_30 : decode c_MO_verb 30 = .ok (.iload_n 3, 1) := by decide +kernel
theorem d_MO_verb_31 : decode c_MO_verb 31 = .ok (.iconst 3, 1) := by decide +kernel
theorem d_MO_verb_32 : decode c_MO_verb 32 = .ok (.if_icmp .ne 15, 3) := by decide +kernel
theorem d_MO_verb_35 : decode c_MO_verb 35 = .ok (.aload_n 0, 1) := by decide +kernel
theorem d_MO_verb_36 : decode c_MO_verb 36 = .ok (.bipush 97, 2) := by decide +kernel
theorem d_MO_verb_38 : decode c_MO_verb 38 = .ok (.bipush 100, 2) := by decide +kernel
theorem d_MO_verb_40 : decode c_MO_verb 40 = .ok (.bipush 100, 2) := by decide +kernel
theorem d_MO_verb_42 : decode c_MO_verb 42 = .ok (.iconst 0, 1) := by decide +kernel
theorem d_MO_verb_43 : decode c_MO_verb 43 = .ok (.iconst 0, 1) := by decide +kernel
theorem d_MO_verb_44 : decode c_MO_verb 44 = .ok (.invokevirtual 196, 3) := by decide +kernel
theorem d_MO_verb_47 : decode c_MO_verb 47 = .ok (.iload_n 3, 1) := by decide +kernel
theorem d_MO_verb_48 : decode c_MO_verb 48 = .ok (.iconst 3, 1) := by decide +kernel
theorem d_MO_verb_49 : decode c_MO_verb 49 = .ok (.if_icmp .ne 14, 3) := by decide +kernel
theorem d_MO_verb_52 : decode c_MO_verb 52 = .ok (.aload_n 0, 1) := by decide +kernel
theorem d_MO_verb_53 : decode c_MO_verb 53 = .ok (.iload_n 2, 1) := by decide +kernel
theorem d_MO_verb_54 : decode c_MO_verb 54 = .ok (.iconst 3, 1) := by decide +kernel
theorem d_MO_verb_55 : decode c_MO_verb 55 = .ok (.invokevirtual 173, 3) := by decide +kernel
theorem d_MO_verb_58 : decode c_MO_verb 58 = .ok (.ifCond .eq 5, 3) := by decide +kernel
theorem d_MO_verb_61 : decode c_MO_verb 61 = .ok (.iconst 1, 1) := by decide +kernel
theorem d_MO_verb_62 : decode c_MO_verb 62 = .ok (.ireturn, 1) := by decide +kernel
theorem d_MO_verb_63 : decode c_MO_verb 63 = .ok (.iload_n 3, 1) := by decide +kernel
theorem d_MO_verb_64 : decode c_MO_verb 64 = .ok (.iconst 4, 1) := by decide +kernel
theorem d_MO_verb_65 : decode c_MO_verb 65 = .ok (.if_icmp .ne 16, 3) := by decide +kernel
theorem d_MO_verb_68 : decode c_MO_verb 68 = .ok (.aload_n 0, 1) := by decide +kernel
theorem d_MO_verb_69 : decode c_MO_verb 69 = .ok (.bipush 109, 2) := by decide +kernel
theorem d_MO_verb_71 : decode c_MO_verb 71 = .ok (.bipush 111, 2) := by decide +kernel
theorem d_MO_verb_73 : decode c_MO_verb 73 = .ok (.bipush 118, 2) := by decide +kernel
theorem d_MO_verb_75 : decode c_MO_verb 75 = .ok (.bipush 101, 2) := by decide +kernel
theorem d_MO_verb_77 : decode c_MO_verb 77 = .ok (.iconst 0, 1) := by decide +kernel
theorem d_MO_verb_78 : decode c_MO_verb 78 = .ok (.invokevirtual 196, 3) := by decide +kernel
theorem d_MO_verb_81 : decode c_MO_verb 81 = .ok (.iload_n 3, 1) := by decide +kernel
theorem d_MO_verb_82 : decode c_MO_verb 82 = .ok (.iconst 4, 1) := by decide +kernel
theorem d_MO_verb_83 : decode c_MO_verb 83 = .ok (.if_icmp .ne 14, 3) := by decide +kernel
theorem d_MO_verb_86 : decode c_MO_verb 86 = .ok (.aload_n 0, 1) := by decide +kernel
theorem d_MO_verb_87 : decode c_MO_verb 87 = .ok (.iload_n 2, 1) := by decide +kernel
theorem d_MO_verb_88 : decode c_MO_verb 88 = .ok (.iconst 4, 1) := by decide +kernel
theorem d_MO_verb_89 : decode c_MO_verb 89 = .ok (.invokevirtual 173, 3) := by decide +kernel
theorem d_MO_verb_92 : decode c_MO_verb 92 = .ok (.ifCond .eq 5, 3) := by decide +kernel
theorem d_MO_verb_95 : decode c_MO_verb 95 = .ok (.iconst 4, 1) := by decide +kernel
theorem d_MO_verb_96 : decode c_MO_verb 96 = .ok (.ireturn, 1) := by decide +kernel
theorem d_MO_verb_97 : decode c_MO_verb 97 = .ok (.iload_n 3, 1) := by decide +kernel
theorem d_MO_verb_98 : decode c_MO_verb 98 = .ok (.iconst 4, 1) := by decide +kernel
theorem d_MO_verb_99 : decode c_MO_verb 99 = .ok (.if_icmp .ne 16, 3) := by decide +kernel
theorem d_MO_verb_102 : decode c_MO_verb 102 = .ok (.aload_n 0, 1) := by decide +kernel
theorem d_MO_verb_103 : decode c_MO_verb 103 = .ok (.bipush 99, 2) := by decide +kernel
theorem d_MO_verb_105 : decode c_MO_verb 105 = .ok (.bipush 111, 2) := by decide +kernel
theorem d_MO_verb_107 : decode c_MO_verb 107 = .ok (.bipush 112, 2) := by decide +kernel
theorem d_MO_verb_109 : decode c_MO_verb 109 = .ok (.bipush 121, 2) := by decide +kernel
theorem d_MO_verb_111 : decode c_MO_verb 111 = .ok (.iconst 0, 1) := by decide +kernel
theorem d_MO_verb_112 : decode c_MO_verb 112 = .ok (.invokevirtual 196, 3) := by decide +kernel
theorem d_MO_verb_115 : decode c_MO_verb 115 = .ok (.iload_n 3, 1) := by decide +kernel
theorem d_MO_verb_116 : decode c_MO_verb 116 = .ok (.iconst 4, 1) := by decide +kernel
theorem d_MO_verb_117 : decode c_MO_verb 117 = .ok (.if_icmp .ne 14, 3) := by decide +kernel
theorem d_MO_verb_120 : decode c_MO_verb 120 = .ok (.aload_n 0, 1) := by decide +kernel
theorem d_MO_verb_121 : decode c_MO_verb 121 = .ok (.iload_n 2, 1) := by decide +kernel
theorem d_MO_verb_122 : decode c_MO_verb 122 = .ok (.iconst 4, 1) := by decide +kernel
theorem d_MO_verb_123 : decode c_MO_verb 123 = .ok (.invokevirtual 173, 3) := by decide +kernel
theorem d_MO_verb_126 : decode c_MO_verb 126 = .ok (.ifCond .eq 5, 3) := by decide +kernel
theorem d_MO_verb_129 : decode c_MO_verb 129 = .ok (.iconst 5, 1) := by decide +kernel
theorem d_MO_verb_130 : decode c_MO_verb 130 = .ok (.ireturn, 1) := by decide +kernel
theorem d_MO_verb_131 : decode c_MO_verb 131 = .ok (.iload_n 3, 1) := by decide +kernel
theorem d_MO_verb_132 : decode c_MO_verb 132 = .ok (.iconst 4, 1) := by decide +kernel
theorem d_MO_verb_133 : decode c_MO_verb 133 = .ok (.if_icmp .ne 16, 3) := by decide +kernel
theorem d_MO_verb_136 : decode c_MO_verb 136 = .ok (.aload_n 0, 1) := by decide +kernel
theorem d_MO_verb_137 : decode c_MO_verb 137 = .ok (.bipush 116, 2) := by decide +kernel
theorem d_MO_verb_139 : decode c_MO_verb 139 = .ok (.bipush 101, 2) := by decide +kernel
theorem d_MO_verb_141 : decode c_MO_verb 141 = .ok (.bipush 115, 2) := by decide +kernel
theorem d_MO_verb_143 : decode c_MO_verb 143 = .ok (.bipush 116, 2) := by decide +kernel
theorem d_MO_verb_145 : decode c_MO_verb 145 = .ok (.iconst 0, 1) := by decide +kernel
theorem d_MO_verb_146 : decode c_MO_verb 146 = .ok (.invokevirtual 196, 3) := by decide +kernel
theorem d_MO_verb_149 : decode c_MO_verb 149 = .ok (.iload_n 3, 1) := by decide +kernel
theorem d_MO_verb_150 : decode c_MO_verb 150 = .ok (.iconst 4, 1) := by decide +kernel
theorem d_MO_verb_151 : decode c_MO_verb 151 = .ok (.if_icmp .ne 15, 3) := by decide +kernel
theorem d_MO_verb_154 : decode c_MO_verb 154 = .ok (.aload_n 0, 1) := by decide +kernel
theorem d_MO_verb_155 : decode c_MO_verb 155 = .ok (.iload_n 2, 1) := by decide +kernel
theorem d_MO_verb_156 : decode c_MO_verb 156 = .ok (.iconst 4, 1) := by decide +kernel
theorem d_MO_verb_157 : decode c_MO_verb 157 = .ok (.invokevirtual 173, 3) := by decide +kernel
theorem d_MO_verb_160 : decode c_MO_verb 160 = .ok (.ifCond .eq 6, 3) := by decide +kernel
theorem d_MO_verb_163 : decode c_MO_verb 163 = .ok (.bipush 6, 2) := by decide +kernel
theorem d_MO_verb_165 : decode c_MO_verb 165 = .ok (.ireturn, 1) := by decide +kernel
theorem d_MO_verb_166 : decode c_MO_verb 166 = .ok (.iload_n 3, 1) := by decide +kernel
theorem d_MO_verb_167 : decode c_MO_verb 167 = .ok (.bipush 6, 2) := by decide +kernel
theorem d_MO_verb_169 : decode c_MO_verb 169 = .ok (.if_icmp .lt 33, 3) := by decide +kernel
theorem d_MO_verb_172 : decode c_MO_verb 172 = .ok (.iload_n 3, 1) := by decide +kernel
theorem d_MO_verb_173 : decode c_MO_verb 173 = .ok (.bipush 7, 2) := by decide +kernel
theorem d_MO_verb_175 : decode c_MO_verb 175 = .ok (.if_icmp .gt 27, 3) := by decide +kernel
theorem d_MO_verb_178 : decode c_MO_verb 178 = .ok (.aload_n 0, 1) := by decide +kernel
theorem d_MO_verb_179 : decode c_MO_verb 179 = .ok (.getfield 35, 3) := by decide +kernel
theorem d_MO_verb_182 : decode c_MO_verb 182 = .ok (.iload_n 2, 1) := by decide +kernel
theorem d_MO_verb_183 : decode c_MO_verb 183 = .ok (.caload, 1) := by decide +kernel
theorem d_MO_verb_184 : decode c_MO_verb 184 = .ok (.bipush 114, 2) := by decide +kernel
theorem d_MO_verb_186 : decode c_MO_verb 186 = .ok (.if_icmp .ne 16, 3) := by decide +kernel
theorem d_MO_verb_189 : decode c_MO_verb 189 = .ok (.aload_n 0, 1) := by decide +kernel
theorem d_MO_verb_190 : decode c_MO_verb 190 = .ok (.getfield 35, 3) := by decide +kernel
theorem d_MO_verb_193 : decode c_MO_verb 193 = .ok (.iload_n 2, 1) := by decide +kernel
theorem d_MO_verb_194 : decode c_MO_verb 194 = .ok (.iconst 1, 1) := by decide +kernel
theorem d_MO_verb_195 : decode c_MO_verb 195 = .ok (.iadd, 1) := by decide +kernel
theorem d_MO_verb_196 : decode c_MO_verb 196 = .ok (.caload, 1) := by decide +kernel
theorem d_MO_verb_197 : decode c_MO_verb 197 = .ok (.bipush 101, 2) := by decide +kernel
theorem d_MO_verb_199 : decode c_MO_verb 199 = .ok (.if_icmp .eq 5, 3) := by decide +kernel
theorem d_MO_verb_202 : decode c_MO_verb 202 = .ok (.iconst 0, 1) := by decide +kernel
theorem d_MO_verb_203 : decode c_MO_verb 203 = .ok (.ireturn, 1) := by decide +kernel
theorem d_MO_verb_204 : decode c_MO_verb 204 = .ok (.iload_n 3, 1) := by decide +kernel
theorem d_MO_verb_205 : decode c_MO_verb 205 = .ok (.bipush 6, 2) := by decide +kernel
theorem d_MO_verb_207 : decode c_MO_verb 207 = .ok (.if_icmp .ne 19, 3) := by decide +kernel
theorem d_MO_verb_210 : decode c_MO_verb 210 = .ok (.aload_n 0, 1) := by decide +kernel
theorem d_MO_verb_211 : decode c_MO_verb 211 = .ok (.bipush 109, 2) := by decide +kernel
theorem d_MO_verb_213 : decode c_MO_verb 213 = .ok (.bipush 111, 2) := by decide +kernel
theorem d_MO_verb_215 : decode c_MO_verb 215 = .ok (.bipush 118, 2) := by decide +kernel
theorem d_MO_verb_217 : decode c_MO_verb 217 = .ok (.bipush 101, 2) := by decide +kernel
theorem d_MO_verb_219 : decode c_MO_verb 219 = .ok (.iconst 0, 1) := by decide +kernel
theorem d_MO_verb_220 : decode c_MO_verb 220 = .ok (.invokevirtual 196, 3) := by decide +kernel
theorem d_MO_verb_223 : decode c_MO_verb 223 = .ok (.goto 17, 3) := by decide +kernel
theorem d_MO_verb_226 : decode c_MO_verb 226 = .ok (.aload_n 0, 1) := by decide +kernel
theorem d_MO_verb_227 : decode c_MO_verb 227 = .ok (.bipush 112, 2) := by decide +kernel
theorem d_MO_verb_229 : decode c_MO_verb 229 = .ok (.bipush 108, 2) := by decide +kernel
theorem d_MO_verb_231 : decode c_MO_verb 231 = .ok (.bipush 97, 2) := by decide +kernel
theorem d_MO_verb_233 : decode c_MO_verb 233 = .ok (.bipush 99, 2) := by decide +kernel
theorem d_MO_verb_235 : decode c_MO_verb 235 = .ok (.bipush 101, 2) := by decide +kernel
theorem d_MO_verb_237 : decode c_MO_verb 237 = .ok (.invokevirtual 196, 3) := by decide +kernel
theorem d_MO_verb_240 : decode c_MO_verb 240 = .ok (.aload_n 0, 1) := by decide +kernel
theorem d_MO_verb_241 : decode c_MO_verb 241 = .ok (.iload_n 2, 1) := by decide +kernel
theorem d_MO_verb_242 : decode c_MO_verb 242 = .ok (.iconst 2, 1) := by decide +kernel
theorem d_MO_verb_243 : decode c_MO_verb 243 = .ok (.iadd, 1) := by decide +kernel
theorem d_MO_verb_244 : decode c_MO_verb 244 = .ok (.iload_n 3, 1) := by decide +kernel
theorem d_MO_verb_245 : decode c_MO_verb 245 = .ok (.iconst 2, 1) := by decide +kernel
theorem d_MO_verb_246 : decode c_MO_verb 246 = .ok (.isub, 1) := by decide +kernel
theorem d_MO_verb_247 : decode c_MO_verb 247 = .ok (.invokevirtual 173, 3) := by decide +kernel
theorem d_MO_verb_250 : decode c_MO_verb 250 = .ok (.ifCond .eq 17, 3) := by decide +kernel
theorem d_MO_verb_253 : decode c_MO_verb 253 = .ok (.iload_n 3, 1) := by decide +kernel
theorem d_MO_verb_254 : decode c_MO_verb 254 = .ok (.bipush 6, 2) := by decide +kernel
theorem d_MO_verb_256 : decode c_MO_verb 256 = .ok (.if_icmp .ne 7, 3) := by decide +kernel
theorem d_MO_verb_259 : decode c_MO_verb 259 = .ok (.iconst 2, 1) := by decide +kernel
theorem d_MO_verb_260 : decode c_MO_verb 260 = .ok (.goto 8, 3) := by decide +kernel
theorem d_MO_verb_263 : decode c_MO_verb 263 = .ok (.iconst 3, 1) := by decide +kernel
theorem d_MO_verb_264 : decode c_MO_verb 264 = .ok (.goto 4, 3) := by decide +kernel
theorem d_MO_verb_267 : decode c_MO_verb 267 = .ok (.iconst 0, 1) := by decide +kernel
theorem d_MO_verb_268 : decode c_MO_verb 268 = .ok (.ireturn, 1) := by decide +kernel
def ws_MO_verb : List Cond := .code y_MO_verb c_MO_verb 4 (some .int) :: TBL
theorem d_MO_isPointer_0 : decode c_MO_isPointer 0 = .ok (.iload_n 1, 1) := by decide +kernel
theorem d_MO_isPointer_1 : decode c_MO_isPointer 1 = .ok (.ifCond .lt 13, 3) := by decide +kernel
theorem d_MO_isPointer_4 : decode c_MO_isPointer 4 = .ok (.aload_n 0, 1) := by decide +kernel
theorem d_MO_isPointer_5 : decode c_MO_isPointer 5 = .ok (.getfield 13, 3) := by decide +kernel
theorem d_MO_isPointer_8 : decode c_MO_isPointer 8 = .ok (.iload_n 1, 1) := by decide +kernel
theorem d_MO_isPointer_9 : decode c_MO_isPointer 9 = .ok (.iaload, 1) := by decide +kernel
theorem d_MO_isPointer_10 : decode c_MO_isPointer 10 = .ok (.iconst 4, 1) := by decide +kernel
theorem d_MO_isPointer_11 : decode c_MO_isPointer 11 = .ok (.if_icmp .eq 5, 3) := by decide +kernel
theorem d_MO_isPointer_14 : decode c_MO_isPointer 14 = .ok (.iconst 0, 1) := by decide +kernel
theorem d_MO_isPointer_15 : decode c_MO_isPointer 15 = .ok (.ireturn, 1) := by decide +kernel
theorem d_MO_isPointer_16 : decode c_MO_isPointer 16 = .ok (.aload_n 0, 1) := by decide +kernel
theorem d_MO_isPointer_17 : decode c_MO_isPointer 17 = .ok (.getfield 22, 3) := by decide +kernel
theorem d_MO_isPointer_20 : decode c_MO_isPointer 20 = .ok (.iload_n 1, 1) := by decide +kernel
theorem d_MO_isPointer_21 : decode c_MO_isPointer 21 = .ok (.iaload, 1) := by decide +kernel
theorem d_MO_isPointer_22 : decode c_MO_isPointer 22 = .ok (.ifCond .eq 19, 3) := by decide +kernel
theorem d_MO_isPointer_25 : decode c_MO_isPointer 25 = .ok (.aload_n 0, 1) := by decide +kernel
theorem d_MO_isPointer_26 : decode c_MO_isPointer 26 = .ok (.getfield 35, 3) := by decide +kernel
theorem d_MO_isPointer_29 : decode c_MO_isPointer 29 = .ok (.aload_n 0, 1) := by decide +kernel
theorem d_MO_isPointer_30 : decode c_MO_isPointer 30 = .ok (.getfield 19, 3) := by decide +kernel
theorem d_MO_isPointer_33 : decode c_MO_isPointer 33 = .ok (.iload_n 1, 1) := by decide +kernel
theorem d_MO_isPointer_34 : decode c_MO_isPointer 34 = .ok (.iaload, 1) := by decide +kernel
theorem d_MO_isPointer_35 : decode c_MO_isPointer 35 = .ok (.caload, 1) := by decide +kernel
theorem d_MO_isPointer_36 : decode c_MO_isPointer 36 = .ok (.bipush 47, 2) := by decide +kernel
theorem d_MO_isPointer_38 : decode c_MO_isPointer 38 = .ok (.if_icmp .ne 7, 3) := by decide +kernel
theorem d_MO_isPointer_41 : decode c_MO_isPointer 41 = .ok (.iconst 1, 1) := by decide +kernel
theorem d_MO_isPointer_42 : decode c_MO_isPointer 42 = .ok (.goto 4, 3) := by decide +kernel
theorem d_MO_isPointer_45 : decode c_MO_isPointer 45 = .ok (.iconst 0, 1) := by decide +kernel
theorem d_MO_isPointer_46 : decode c_MO_isPointer 46 = .ok (.istore_n 2, 1) := by decide +kernel
theorem d_MO_isPointer_47 : decode c_MO_isPointer 47 = .ok (.iconst 0, 1) := by decide +kernel
theorem d_MO_isPointer_48 : decode c_MO_isPointer 48 = .ok (.istore_n 3, 1) := by decide +kernel
theorem d_MO_isPointer_49 : decode c_MO_isPointer 49 = .ok (.iload_n 3, 1) := by decide +kernel
theorem d_MO_isPointer_50 : decode c_MO_isPointer 50 = .ok (.aload_n 0, 1) := by decide +kernel
theorem d_MO_isPointer_51 : decode c_MO_isPointer 51 = .ok (.getfield 22, 3) := by decide +kernel
theorem d_MO_isPointer_54 : decode c_MO_isPointer 54 = .ok (.iload_n 1, 1) := by decide +kernel
theorem d_MO_isPointer_55 : decode c_MO_isPointer 55 = .ok (.iaload, 1) := by decide +kernel
theorem d_MO_isPointer_56 : decode c_MO_isPointer 56 = .ok (.if_icmp .ge 84, 3) := by decide +kernel
theorem d_MO_isPointer_59 : decode c_MO_isPointer 59 = .ok (.aload_n 0, 1) := by decide +kernel
theorem d_MO_isPointer_60 : decode c_MO_isPointer 60 = .ok (.getfield 35, 3) := by decide +kernel
theorem d_MO_isPointer_63 : decode c_MO_isPointer 63 = .ok (.aload_n 0, 1) := by decide +kernel
theorem d_MO_isPointer_64 : decode c_MO_isPointer 64 = .ok (.getfield 19, 3) := by decide +kernel
theorem d_MO_isPointer_67 : decode c_MO_isPointer 67 = .ok (.iload_n 1, 1) := by decide +kernel
theorem d_MO_isPointer_68 : decode c_MO_isPointer 68 = .ok (.iaload, 1) := by decide +kernel
theorem d_MO_isPointer_69 : decode c_MO_isPointer 69 = .ok (.iload_n 3, 1) := by decide +kernel
theorem d_MO_isPointer_70 : decode c_MO_isPointer 70 = .ok (.iadd, 1) := by decide +kernel
theorem d_MO_isPointer_71 : decode c_MO_isPointer 71 = .ok (.caload, 1) := by decide +kernel
theorem d_MO_isPointer_72 : decode c_MO_isPointer 72 = .ok (.bipush 126, 2) := by decide +kernel
theorem d_MO_isPointer_74 : decode c_MO_isPointer 74 = .ok (.if_icmp .ne 60, 3) := by decide +kernel
theorem d_MO_isPointer_77 : decode c_MO_isPointer 77 = .ok (.iload_n 3, 1) := by decide +kernel
theorem d_MO_isPointer_78 : decode c_MO_isPointer 78 = .ok (.iconst 1, 1) := by decide +kernel
theorem d_MO_isPointer_79 : decode c_MO_isPointer 79 = .ok (.iadd, 1) := by decide +kernel
theorem d_MO_isPointer_80 : decode c_MO_isPointer 80 = .ok (.aload_n 0, 1) := by decide +kernel
theorem d_MO_isPointer_81 : decode c_MO_isPointer 81 = .ok (.getfield 22, 3) := by decide +kernel
theorem d_MO_isPointer_84 : decode c_MO_isPointer 84 = .ok (.iload_n 1, 1) := by decide +kernel
theorem d_MO_isPointer_85 : decode c_MO_isPointer 85 = .ok (.iaload, 1) := by decide +kernel
theorem d_MO_isPointer_86 : decode c_MO_isPointer 86 = .ok (.if_icmp .ge 21, 3) := by decide +kernel
theorem d_MO_isPointer_89 : decode c_MO_isPointer 89 = .ok (.aload_n 0, 1) := by decide +kernel
theorem d_MO_isPointer_90 : decode c_MO_isPointer 90 = .ok (.getfield 35, 3) := by decide +kernel
theorem d_MO_isPointer_93 : decode c_MO_isPointer 93 = .ok (.aload_n 0, 1) := by decide +kernel
theorem d_MO_isPointer_94 : decode c_MO_isPointer 94 = .ok (.getfield 19, 3) := by decide +kernel
theorem d_MO_isPointer_97 : decode c_MO_isPointer 97 = .ok (.iload_n 1, 1) := by decide +kernel
theorem d_MO_isPointer_98 : decode c_MO_isPointer 98 = .ok (.iaload, 1) := by decide +kernel
theorem d_MO_isPointer_99 : decode c_MO_isPointer 99 = .ok (.iload_n 3, 1) := by decide +kernel
theorem d_MO_isPointer_100 : decode c_MO_isPointer 100 = .ok (.iadd, 1) := by decide +kernel
theorem d_MO_isPointer_101 : decode c_MO_isPointer 101 = .ok (.iconst 1, 1) := by decide +kernel
theorem d_MO_isPointer_102 : decode c_MO_isPointer 102 = .ok (.iadd, 1) := by decide +kernel
theorem d_MO_isPointer_103 : decode c_MO_isPointer 103 = .ok (.caload, 1) := by decide +kernel
theorem d_MO_isPointer_104 : decode c_MO_isPointer 104 = .ok (.goto 4, 3) := by decide +kernel
theorem d_MO_isPointer_107 : decode c_MO_isPointer 107 = .ok (.iconst 0, 1) := by decide +kernel
theorem d_MO_isPointer_108 : decode c_MO_isPointer 108 = .ok (.istore 4, 2) := by decide +kernel
theorem d_MO_isPointer_110 : decode c_MO_isPointer 110 = .ok (.iload_n 2, 1) := by decide +kernel
theorem d_MO_isPointer_111 : decode c_MO_isPointer 111 = .ok (.ifCond .eq 21, 3) := by decide +kernel
theorem d_MO_isPointer_114 : decode c_MO_isPointer 114 = .ok (.iload 4, 2) := by decide +kernel
theorem d_MO_isPointer_116 : decode c_MO_isPointer 116 = .ok (.bipush 48, 2) := by decide +kernel
theorem d_MO_isPointer_118 : decode c_MO_isPointer 118 = .ok (.if_icmp .eq 10, 3) := by decide +kernel
theorem d_MO_isPointer_121 : decode c_MO_isPointer 121 = .ok (.iload 4, 2) := by decide +kernel
theorem d_MO_isPointer_123 : decode c_MO_isPointer 123 = .ok (.bipush 49, 2) := by decide +kernel
theorem d_MO_isPointer_125 : decode c_MO_isPointer 125 = .ok (.if_icmp .ne 7, 3) := by decide +kernel
theorem d_MO_isPointer_128 : decode c_MO_isPointer 128 = .ok (.iconst 1, 1) := by decide +kernel
theorem d_MO_isPointer_129 : decode c_MO_isPointer 129 = .ok (.goto 4, 3) := by decide +kernel
theorem d_MO_isPointer_132 : decode c_MO_isPointer 132 = .ok (.iconst 0, 1) := by decide +kernel
theorem d_MO_isPointer_133 : decode c_MO_isPointer 133 = .ok (.istore_n 2, 1) := by decide +kernel
theorem d_MO_isPointer_134 : decode c_MO_isPointer 134 = .ok (.iinc 3 1, 3) := by decide +kernel
theorem d_MO_isPointer_137 : decode c_MO_isPointer 137 = .ok (.goto (-88), 3) := by decide +kernel
theorem d_MO_isPointer_140 : decode c_MO_isPointer 140 = .ok (.iload_n 2, 1) := by decide +kernel
theorem d_MO_isPointer_141 : decode c_MO_isPointer 141 = .ok (.ireturn, 1) := by decide +kernel
def ws_MO_isPointer : List Cond := .code y_MO_isPointer c_MO_isPointer 5 (some .boolean) :: TBL
theorem d_MO_operate_0 : decode c_MO_operate 0 = .ok (.aload_n 0, 1) := by decide +kernel
theorem d_MO_operate_1 : decode c_MO_operate 1 = .ok (.iload_n 1, 1) := by decide +kernel
theorem d_MO_operate_2 : decode c_MO_operate 2 = .ok (.iconst 0, 1) := by decide +kernel
theorem d_MO_operate_3 : decode c_MO_operate 3 = .ok (.invokevirtual 200, 3) := by decide +kernel
theorem d_MO_operate_6 : decode c_MO_operate 6 = .ok (.istore_n 2, 1) := by decide +kernel
theorem d_MO_operate_7 : decode c_MO_operate 7 = .ok (.aload_n 0, 1) := by decide +kernel
theorem d_MO_operate_8 : decode c_MO_operate 8 = .ok (.iload_n 2, 1) := by decide +kernel
theorem d_MO_operate_9 : decode c_MO_operate 9 = .ok (.invokevirtual 203, 3) := by decide +kernel
theorem d_MO_operate_12 : decode c_MO_operate 12 = .ok (.istore_n 3, 1) := by decide +kernel
theorem d_MO_operate_13 : decode c_MO_operate 13 = .ok (.aload_n 0, 1) := by decide +kernel
theorem d_MO_operate_14 : decode c_MO_operate 14 = .ok (.iload_n 1, 1) := by decide +kernel
theorem d_MO_operate_15 : decode c_MO_operate 15 = .ok (.iconst 1, 1) := by decide +kernel
theorem d_MO_operate_16 : decode c_MO_operate 16 = .ok (.invokevirtual 200, 3) := by decide +kernel
theorem d_MO_operate_19 : decode c_MO_operate 19 = .ok (.istore 4, 2) := by decide +kernel
theorem d_MO_operate_21 : decode c_MO_operate 21 = .ok (.aload_n 0, 1) := by decide +kernel
theorem d_MO_operate_22 : decode c_MO_operate 22 = .ok (.getfield 19, 3) := by decide +kernel
theorem d_MO_operate_25 : decode c_MO_operate 25 = .ok (.iload 4, 2) := by decide +kernel
theorem d_MO_operate_27 : decode c_MO_operate 27 = .ok (.iaload, 1) := by decide +kernel
theorem d_MO_operate_28 : decode c_MO_operate 28 = .ok (.istore 5, 2) := by decide +kernel
theorem d_MO_operate_30 : decode c_MO_operate 30 = .ok (.iload 5, 2) := by decide +kernel
theorem d_MO_operate_32 : decode c_MO_operate 32 = .ok (.aload_n 0, 1) := by decide +kernel
theorem d_MO_operate_33 : decode c_MO_operate 33 = .ok (.getfield 22, 3) := by decide +kernel
theorem d_MO_operate_36 : decode c_MO_operate 36 = .ok (.iload 4, 2) := by decide +kernel
theorem d_MO_operate_38 : decode c_MO_operate 38 = .ok (.iaload, 1) := by decide +kernel
theorem d_MO_operate_39 : decode c_MO_operate 39 = .ok (.iadd, 1) := by decide +kernel
theorem d_MO_operate_40 : decode c_MO_operate 40 = .ok (.istore 6, 2) := by decide +kernel
theorem d_MO_operate_42 : decode c_MO_operate 42 = .ok (.iload_n 3, 1) := by decide +kernel
theorem d_MO_operate_43 : decode c_MO_operate 43 = .ok (.iconst 1, 1) := by decide +kernel
theorem d_MO_operate_44 : decode c_MO_operate 44 = .ok (.if_icmp .ne 33, 3) := by decide +kernel
theorem d_MO_operate_47 : decode c_MO_operate 47 = .ok (.aload_n 0, 1) := by decide +kernel
theorem d_MO_operate_48 : decode c_MO_operate 48 = .ok (.bipush 8, 2) := by decide +kernel
theorem d_MO_operate_50 : decode c_MO_operate 50 = .ok (.aload_n 0, 1) := by decide +kernel
theorem d_MO_operate_51 : decode c_MO_operate 51 = .ok (.iload_n 1, 1) := by decide +kernel
theorem d_MO_operate_52 : decode c_MO_operate 52 = .ok (.iconst 2, 1) := by decide +kernel
theorem d_MO_operate_53 : decode c_MO_operate 53 = .ok (.invokevirtual 200, 3) := by decide +kernel
theorem d_MO_operate_56 : decode c_MO_operate 56 = .ok (.invokevirtual 221, 3) := by decide +kernel
theorem d_MO_operate_59 : decode c_MO_operate 59 = .ok (.aload_n 0, 1) := by decide +kernel
theorem d_MO_operate_60 : decode c_MO_operate 60 = .ok (.iload 5, 2) := by decide +kernel
theorem d_MO_operate_62 : decode c_MO_operate 62 = .ok (.iload 6, 2) := by decide +kernel
theorem d_MO_operate_64 : decode c_MO_operate 64 = .ok (.invokevirtual 224, 3) := by decide +kernel
theorem d_MO_operate_67 : decode c_MO_operate 67 = .ok (.ifCond .eq 7, 3) := by decide +kernel
theorem d_MO_operate_70 : decode c_MO_operate 70 = .ok (.iconst 0, 1) := by decide +kernel
theorem d_MO_operate_71 : decode c_MO_operate 71 = .ok (.goto 5, 3) := by decide +kernel
theorem d_MO_operate_74 : decode c_MO_operate 74 = .ok (.bipush 6, 2) := by decide +kernel
theorem d_MO_operate_76 : decode c_MO_operate 76 = .ok (.ireturn, 1) := by decide +kernel
theorem d_MO_operate_77 : decode c_MO_operate 77 = .ok (.iload_n 3, 1) := by decide +kernel
theorem d_MO_operate_78 : decode c_MO_operate 78 = .ok (.iconst 4, 1) := by decide +kernel
theorem d_MO_operate_79 : decode c_MO_operate 79 = .ok (.if_icmp .eq 8, 3) := by decide +kernel
theorem d_MO_operate_82 : decode c_MO_operate 82 = .ok (.iload_n 3, 1) := by decide +kernel
theorem d_MO_operate_83 : decode c_MO_operate 83 = .ok (.iconst 5, 1) := by decide +kernel
theorem d_MO_operate_84 : decode c_MO_operate 84 = .ok (.if_icmp .ne 37, 3) := by decide +kernel
theorem d_MO_operate_87 : decode c_MO_operate 87 = .ok (.aload_n 0, 1) := by decide +kernel
theorem d_MO_operate_88 : decode c_MO_operate 88 = .ok (.aload_n 0, 1) := by decide +kernel
theorem d_MO_operate_89 : decode c_MO_operate 89 = .ok (.iload_n 1, 1) := by decide +kernel
theorem d_MO_operate_90 : decode c_MO_operate 90 = .ok (.iconst 3, 1) := by decide +kernel
theorem d_MO_operate_91 : decode c_MO_operate 91 = .ok (.invokevirtual 200, 3) := by decide +kernel
theorem d_MO_operate_94 : decode c_MO_operate 94 = .ok (.iload 5, 2) := by decide +kernel
theorem d_MO_operate_96 : decode c_MO_operate 96 = .ok (.iload 6, 2) := by decide +kernel
theorem d_MO_operate_98 : decode c_MO_operate 98 = .ok (.iload_n 3, 1) := by decide +kernel
theorem d_MO_operate_99 : decode c_MO_operate 99 = .ok (.iconst 4, 1) := by decide +kernel
theorem d_MO_operate_100 : decode c_MO_operate 100 = .ok (.if_icmp .ne 7, 3) := by decide +kernel
theorem d_MO_operate_103 : decode c_MO_operate 103 = .ok (.iconst 1, 1) := by decide +kernel
theorem d_MO_operate_104 : decode c_MO_operate 104 = .ok (.goto 4, 3) := by decide +kernel
theorem d_MO_operate_107 : decode c_MO_operate 107 = .ok (.iconst 0, 1) := by decide +kernel
theorem d_MO_operate_108 : decode c_MO_operate 108 = .ok (.invokevirtual 227, 3) := by decide +kernel
theorem d_MO_operate_111 : decode c_MO_operate 111 = .ok (.ifCond .eq 7, 3) := by decide +kernel
theorem d_MO_operate_114 : decode c_MO_operate 114 = .ok (.iconst 0, 1) := by decide +kernel
theorem d_MO_operate_115 : decode c_MO_operate 115 = .ok (.goto 5, 3) := by decide +kernel
theorem d_MO_operate_118 : decode c_MO_operate 118 = .ok (.bipush 6, 2) := by decide +kernel
theorem d_MO_operate_120 : decode c_MO_operate 120 = .ok (.ireturn, 1) := by decide +kernel
theorem d_MO_operate_121 : decode c_MO_operate 121 = .ok (.aload_n 0, 1) := by decide +kernel
theorem d_MO_operate_122 : decode c_MO_operate 122 = .ok (.iload 5, 2) := by decide +kernel
theorem d_MO_operate_124 : decode c_MO_operate 124 = .ok (.iload 6, 2) := by decide +kernel
theorem d_MO_operate_126 : decode c_MO_operate 126 = .ok (.invokevirtual 231, 3) := by decide +kernel
theorem d_MO_operate_129 : decode c_MO_operate 129 = .ok (.istore 7, 2) := by decide +kernel
theorem d_MO_operate_131 : decode c_MO_operate 131 = .ok (.iload 7, 2) := by decide +kernel
theorem d_MO_operate_133 : decode c_MO_operate 133 = .ok (.ifCond .lt 16, 3) := by decide +kernel
theorem d_MO_operate_136 : decode c_MO_operate 136 = .ok (.iload_n 3, 1) := by decide +kernel
theorem d_MO_operate_137 : decode c_MO_operate 137 = .ok (.iconst 2, 1) := by decide +kernel
theorem d_MO_operate_138 : decode c_MO_operate 138 = .ok (.if_icmp .ne 14, 3) := by decide +kernel
theorem d_MO_operate_141 : decode c_MO_operate 141 = .ok (.iload 7, 2) := by decide +kernel
theorem d_MO_operate_143 : decode c_MO_operate 143 = .ok (.sipush 224, 3) := by decide +kernel
theorem d_MO_operate_146 : decode c_MO_operate 146 = .ok (.if_icmp .ne 6, 3) := by decide +kernel
theorem d_MO_operate_149 : decode c_MO_operate 149 = .ok (.bipush 6, 2) := by decide +kernel
theorem d_MO_operate_151 : decode c_MO_operate 151 = .ok (.ireturn, 1) := by decide +kernel
theorem d_MO_operate_152 : decode c_MO_operate 152 = .ok (.iload_n 3, 1) := by decide +kernel
theorem d_MO_operate_153 : decode c_MO_operate 153 = .ok (.bipush 6, 2) := by decide +kernel
theorem d_MO_operate_155 : decode c_MO_operate 155 = .ok (.if_icmp .ne 25, 3) := by decide +kernel
theorem d_MO_operate_158 : decode c_MO_operate 158 = .ok (.aload_n 0, 1) := by decide +kernel
theorem d_MO_operate_159 : decode c_MO_operate 159 = .ok (.iload 7, 2) := by decide +kernel
theorem d_MO_operate_161 : decode c_MO_operate 161 = .ok (.aload_n 0, 1) := by decide +kernel
theorem d_MO_operate_162 : decode c_MO_operate 162 = .ok (.iload_n 1, 1) := by decide +kernel
theorem d_MO_operate_163 : decode c_MO_operate 163 = .ok (.iconst 2, 1) := by decide +kernel
theorem d_MO_operate_164 : decode c_MO_operate 164 = .ok (.invokevirtual 200, 3) := by decide +kernel
theorem d_MO_operate_167 : decode c_MO_operate 167 = .ok (.invokevirtual 234, 3) := by decide +kernel
theorem d_MO_operate_170 : decode c_MO_operate 170 = .ok (.ifCond .eq 7, 3) := by decide +kernel
theorem d_MO_operate_173 : decode c_MO_operate 173 = .ok (.iconst 0, 1) := by decide +kernel
theorem d_MO_operate_174 : decode c_MO_operate 174 = .ok (.goto 5, 3) := by decide +kernel
theorem d_MO_operate_177 : decode c_MO_operate 177 = .ok (.bipush 7, 2) := by decide +kernel
theorem d_MO_operate_179 : decode c_MO_operate 179 = .ok (.ireturn, 1) := by decide +kernel
theorem d_MO_operate_180 : decode c_MO_operate 180 = .ok (.iload_n 3, 1) := by decide +kernel
theorem d_MO_operate_181 : decode c_MO_operate 181 = .ok (.iconst 3, 1) := by decide +kernel
theorem d_MO_operate_182 : decode c_MO_operate 182 = .ok (.if_icmp .ne 15, 3) := by decide +kernel
theorem d_MO_operate_185 : decode c_MO_operate 185 = .ok (.aload_n 0, 1) := by decide +kernel
theorem d_MO_operate_186 : decode c_MO_operate 186 = .ok (.bipush 8, 2) := by decide +kernel
theorem d_MO_operate_188 : decode c_MO_operate 188 = .ok (.aload_n 0, 1) := by decide +kernel
theorem d_MO_operate_189 : decode c_MO_operate 189 = .ok (.iload_n 1, 1) := by decide +kernel
theorem d_MO_operate_190 : decode c_MO_operate 190 = .ok (.iconst 2, 1) := by decide +kernel
theorem d_MO_operate_191 : decode c_MO_operate 191 = .ok (.invokevirtual 200, 3) := by decide +kernel
theorem d_MO_operate_194 : decode c_MO_operate 194 = .ok (.invokevirtual 221, 3) := by decide +kernel
theorem d_MO_operate_197 : decode c_MO_operate 197 = .ok (.aload_n 0, 1) := by decide +kernel
theorem d_MO_operate_198 : decode c_MO_operate 198 = .ok (.getfield 16, 3) := by decide +kernel
theorem d_MO_operate_201 : decode c_MO_operate 201 = .ok (.iload 7, 2) := by decide +kernel
theorem d_MO_operate_203 : decode c_MO_operate 203 = .ok (.iaload, 1) := by decide +kernel
theorem d_MO_operate_204 : decode c_MO_operate 204 = .ok (.istore 8, 2) := by decide +kernel
theorem d_MO_operate_206 : decode c_MO_operate 206 = .ok (.aload_n 0, 1) := by decide +kernel
theorem d_MO_operate_207 : decode c_MO_operate 207 = .ok (.aload_n 0, 1) := by decide +kernel
theorem d_MO_operate_208 : decode c_MO_operate 208 = .ok (.getfield 25, 3) := by decide +kernel
theorem d_MO_operate_211 : decode c_MO_operate 211 = .ok (.iload 7, 2) := by decide +kernel
theorem d_MO_operate_213 : decode c_MO_operate 213 = .ok (.iaload, 1) := by decide +kernel
theorem d_MO_operate_214 : decode c_MO_operate 214 = .ok (.putfield 85, 3) := by decide +kernel
theorem d_MO_operate_217 : decode c_MO_operate 217 = .ok (.aload_n 0, 1) := by decide +kernel
theorem d_MO_operate_218 : decode c_MO_operate 218 = .ok (.aload_n 0, 1) := by decide +kernel
theorem d_MO_operate_219 : decode c_MO_operate 219 = .ok (.getfield 28, 3) := by decide +kernel
theorem d_MO_operate_222 : decode c_MO_operate 222 = .ok (.iload 7, 2) := by decide +kernel
theorem d_MO_operate_224 : decode c_MO_operate 224 = .ok (.iaload, 1) := by decide +kernel
theorem d_MO_operate_225 : decode c_MO_operate 225 = .ok (.putfield 88, 3) := by decide +kernel
theorem d_MO_operate_228 : decode c_MO_operate 228 = .ok (.aload_n 0, 1) := by decide +kernel
theorem d_MO_operate_229 : decode c_MO_operate 229 = .ok (.iload 7, 2) := by decide +kernel
theorem d_MO_operate_231 : decode c_MO_operate 231 = .ok (.invokevirtual 237, 3) := by decide +kernel
theorem d_MO_operate_234 : decode c_MO_operate 234 = .ok (.iload_n 3, 1) := by decide +kernel
theorem d_MO_operate_235 : decode c_MO_operate 235 = .ok (.iconst 3, 1) := by decide +kernel
theorem d_MO_operate_236 : decode c_MO_operate 236 = .ok (.if_icmp .ne 11, 3) := by decide +kernel
theorem d_MO_operate_239 : decode c_MO_operate 239 = .ok (.aload_n 0, 1) := by decide +kernel
theorem d_MO_operate_240 : decode c_MO_operate 240 = .ok (.iload 7, 2) := by decide +kernel
theorem d_MO_operate_242 : decode c_MO_operate 242 = .ok (.iload 8, 2) := by decide +kernel
theorem d_MO_operate_244 : decode c_MO_operate 244 = .ok (.invokevirtual 241, 3) := by decide +kernel
theorem d_MO_operate_247 : decode c_MO_operate 247 = .ok (.iconst 0, 1) := by decide +kernel
theorem d_MO_operate_248 : decode c_MO_operate 248 = .ok (.ireturn, 1) := by decide +kernel
def ws_MO_operate : List Cond := .code y_MO_operate c_MO_operate 9 (some .int) :: TBL
theorem d_MO_takePart_0 : decode c_MO_takePart 0 = .ok (.aload_n 0, 1) := by decide +kernel
theorem d_MO_takePart_1 : decode c_MO_takePart 1 = .ok (.iload_n 1, 1) := by decide +kernel
theorem d_MO_takePart_2 : decode c_MO_takePart 2 = .ok (.iload_n 2, 1) := by decide +kernel
theorem d_MO_takePart_3 : decode c_MO_takePart 3 = .ok (.invokevirtual 81, 3) := by decide +kernel
theorem d_MO_takePart_6 : decode c_MO_takePart 6 = .ok (.istore_n 3, 1) := by decide +kernel
theorem d_MO_takePart_7 : decode c_MO_takePart 7 = .ok (.aload_n 0, 1) := by decide +kernel
theorem d_MO_takePart_8 : decode c_MO_takePart 8 = .ok (.getfield 16, 3) := by decide +kernel
theorem d_MO_takePart_11 : decode c_MO_takePart 11 = .ok (.iload_n 2, 1) := by decide +kernel
theorem d_MO_takePart_12 : decode c_MO_takePart 12 = .ok (.iaload, 1) := by decide +kernel
theorem d_MO_takePart_13 : decode c_MO_takePart 13 = .ok (.istore 4, 2) := by decide +kernel
theorem d_MO_takePart_15 : decode c_MO_takePart 15 = .ok (.aload_n 0, 1) := by decide +kernel
theorem d_MO_takePart_16 : decode c_MO_takePart 16 = .ok (.getfield 7, 3) := by decide +kernel
theorem d_MO_takePart_19 : decode c_MO_takePart 19 = .ok (.bipush 9, 2) := by decide +kernel
theorem d_MO_takePart_21 : decode c_MO_takePart 21 = .ok (.iload_n 3, 1) := by decide +kernel
theorem d_MO_takePart_22 : decode c_MO_takePart 22 = .ok (.iload_n 2, 1) := by decide +kernel
theorem d_MO_takePart_23 : decode c_MO_takePart 23 = .ok (.isub, 1) := by decide +kernel
theorem d_MO_takePart_24 : decode c_MO_takePart 24 = .ok (.iastore, 1) := by decide +kernel
theorem d_MO_takePart_25 : decode c_MO_takePart 25 = .ok (.iload_n 2, 1) := by decide +kernel
theorem d_MO_takePart_26 : decode c_MO_takePart 26 = .ok (.istore 5, 2) := by decide +kernel
theorem d_MO_takePart_28 : decode c_MO_takePart 28 = .ok (.iload 5, 2) := by decide +kernel
theorem d_MO_takePart_30 : decode c_MO_takePart 30 = .ok (.iload_n 3, 1) := by decide +kernel
theorem d_MO_takePart_31 : decode c_MO_takePart 31 = .ok (.if_icmp .ge 46, 3) := by decide +kernel
theorem d_MO_takePart_34 : decode c_MO_takePart 34 = .ok (.aload_n 0, 1) := by decide +kernel
theorem d_MO_takePart_35 : decode c_MO_takePart 35 = .ok (.iload 5, 2) := by decide +kernel
theorem d_MO_takePart_37 : decode c_MO_takePart 37 = .ok (.sipush 480, 3) := by decide +kernel
theorem d_MO_takePart_40 : decode c_MO_takePart 40 = .ok (.iload 5, 2) := by decide +kernel
theorem d_MO_takePart_42 : decode c_MO_takePart 42 = .ok (.iadd, 1) := by decide +kernel
theorem d_MO_takePart_43 : decode c_MO_takePart 43 = .ok (.iload_n 2, 1) := by decide +kernel
theorem d_MO_takePart_44 : decode c_MO_takePart 44 = .ok (.isub, 1) := by decide +kernel
theorem d_MO_takePart_45 : decode c_MO_takePart 45 = .ok (.invokevirtual 77, 3) := by decide +kernel
theorem d_MO_takePart_48 : decode c_MO_takePart 48 = .ok (.aload_n 0, 1) := by decide +kernel
theorem d_MO_takePart_49 : decode c_MO_takePart 49 = .ok (.getfield 16, 3) := by decide +kernel
theorem d_MO_takePart_52 : decode c_MO_takePart 52 = .ok (.sipush 480, 3) := by decide +kernel
theorem d_MO_takePart_55 : decode c_MO_takePart 55 = .ok (.iload 5, 2) := by decide +kernel
theorem d_MO_takePart_57 : decode c_MO_takePart 57 = .ok (.iadd, 1) := by decide +kernel
theorem d_MO_takePart_58 : decode c_MO_takePart 58 = .ok (.iload_n 2, 1) := by decide +kernel
theorem d_MO_takePart_59 : decode c_MO_takePart 59 = .ok (.isub, 1) := by decide +kernel
theorem d_MO_takePart_60 : decode c_MO_takePart 60 = .ok (.aload_n 0, 1) := by decide +kernel
theorem d_MO_takePart_61 : decode c_MO_takePart 61 = .ok (.getfield 16, 3) := by decide +kernel
theorem d_MO_takePart_64 : decode c_MO_takePart 64 = .ok (.iload 5, 2) := by decide +kernel
theorem d_MO_takePart_66 : decode c_MO_takePart 66 = .ok (.iaload, 1) := by decide +kernel
theorem d_MO_takePart_67 : decode c_MO_takePart 67 = .ok (.iload 4, 2) := by decide +kernel
theorem d_MO_takePart_69 : decode c_MO_takePart 69 = .ok (.isub, 1) := by decide +kernel
theorem d_MO_takePart_70 : decode c_MO_takePart 70 = .ok (.iastore, 1) := by decide +kernel
theorem d_MO_takePart_71 : decode c_MO_takePart 71 = .ok (.iinc 5 1, 3) := by decide +kernel
theorem d_MO_takePart_74 : decode c_MO_takePart 74 = .ok (.goto (-46), 3) := by decide +kernel
theorem d_MO_takePart_77 : decode c_MO_takePart 77 = .ok (.return_, 1) := by decide +kernel
def ws_MO_takePart : List Cond := .code y_MO_takePart c_MO_takePart 6 none :: TBL
theorem d_MO_add_0 : decode c_MO_add 0 = .ok (.aload_n 0, 1) := by decide +kernel
theorem d_MO_add_1 : decode c_MO_add 1 = .ok (.iconst (-1), 1) := by decide +kernel
theorem d_MO_add_2 : decode c_MO_add 2 = .ok (.putfield 88, 3) := by decide +kernel
theorem d_MO_add_5 : decode c_MO_add 5 = .ok (.aload_n 0, 1) := by decide +kernel
theorem d_MO_add_6 : decode c_MO_add 6 = .ok (.iconst 0, 1) := by decide +kernel
theorem d_MO_add_7 : decode c_MO_add 7 = .ok (.putfield 85, 3) := by decide +kernel
theorem d_MO_add_10 : decode c_MO_add 10 = .ok (.iload_n 1, 1) := by decide +kernel
theorem d_MO_add_11 : decode c_MO_add 11 = .ok (.iload_n 2, 1) := by decide +kernel
theorem d_MO_add_12 : decode c_MO_add 12 = .ok (.if_icmp .ne 21, 3) := by decide +kernel
theorem d_MO_add_15 : decode c_MO_add 15 = .ok (.aload_n 0, 1) := by decide +kernel
theorem d_MO_add_16 : decode c_MO_add 16 = .ok (.getfield 7, 3) := by decide +kernel
theorem d_MO_add_19 : decode c_MO_add 19 = .ok (.bipush 7, 2) := by decide +kernel
theorem d_MO_add_21 : decode c_MO_add 21 = .ok (.iconst 0, 1) := by decide +kernel
theorem d_MO_add_22 : decode c_MO_add 22 = .ok (.iastore, 1) := by decide +kernel
theorem d_MO_add_23 : decode c_MO_add 23 = .ok (.aload_n 0, 1) := by decide +kernel
theorem d_MO_add_24 : decode c_MO_add 24 = .ok (.sipush 224, 3) := by decide +kernel
theorem d_MO_add_27 : decode c_MO_add 27 = .ok (.iconst 0, 1) := by decide +kernel
theorem d_MO_add_28 : decode c_MO_add 28 = .ok (.invokevirtual 241, 3) := by decide +kernel
theorem d_MO_add_31 : decode c_MO_add 31 = .ok (.iconst 1, 1) := by decide +kernel
theorem d_MO_add_32 : decode c_MO_add 32 = .ok (.ireturn, 1) := by decide +kernel
theorem d_MO_add_33 : decode c_MO_add 33 = .ok (.iload_n 2, 1) := by decide +kernel
theorem d_MO_add_34 : decode c_MO_add 34 = .ok (.iconst 1, 1) := by decide +kernel
theorem d_MO_add_35 : decode c_MO_add 35 = .ok (.isub, 1) := by decide +kernel
theorem d_MO_add_36 : decode c_MO_add 36 = .ok (.istore_n 3, 1) := by decide +kernel
theorem d_MO_add_37 : decode c_MO_add 37 = .ok (.aload_n 0, 1) := by decide +kernel
theorem d_MO_add_38 : decode c_MO_add 38 = .ok (.getfield 35, 3) := by decide +kernel
theorem d_MO_add_41 : decode c_MO_add 41 = .ok (.iload_n 3, 1) := by decide +kernel
theorem d_MO_add_42 : decode c_MO_add 42 = .ok (.caload, 1) := by decide +kernel
theorem d_MO_add_43 : decode c_MO_add 43 = .ok (.bipush 47, 2) := by decide +kernel
theorem d_MO_add_45 : decode c_MO_add 45 = .ok (.if_icmp .eq 9, 3) := by decide +kernel
theorem d_MO_add_48 : decode c_MO_add 48 = .ok (.iinc 3 (-1), 3) := by decide +kernel
theorem d_MO_add_51 : decode c_MO_add 51 = .ok (.goto (-14), 3) := by decide +kernel
theorem d_MO_add_54 : decode c_MO_add 54 = .ok (.aload_n 0, 1) := by decide +kernel
theorem d_MO_add_55 : decode c_MO_add 55 = .ok (.iload_n 1, 1) := by decide +kernel
theorem d_MO_add_56 : decode c_MO_add 56 = .ok (.iload_n 3, 1) := by decide +kernel
theorem d_MO_add_57 : decode c_MO_add 57 = .ok (.invokevirtual 231, 3) := by decide +kernel
theorem d_MO_add_60 : decode c_MO_add 60 = .ok (.istore 4, 2) := by decide +kernel
theorem d_MO_add_62 : decode c_MO_add 62 = .ok (.iload 4, 2) := by decide +kernel
theorem d_MO_add_64 : decode c_MO_add 64 = .ok (.ifCond .lt 14, 3) := by decide +kernel
theorem d_MO_add_67 : decode c_MO_add 67 = .ok (.aload_n 0, 1) := by decide +kernel
theorem d_MO_add_68 : decode c_MO_add 68 = .ok (.getfield 13, 3) := by decide +kernel
theorem d_MO_add_71 : decode c_MO_add 71 = .ok (.iload 4, 2) := by decide +kernel
theorem d_MO_add_73 : decode c_MO_add 73 = .ok (.iaload, 1) := by decide +kernel
theorem d_MO_add_74 : decode c_MO_add 74 = .ok (.iconst 5, 1) := by decide +kernel
theorem d_MO_add_75 : decode c_MO_add 75 = .ok (.if_icmp .ge 5, 3) := by decide +kernel
theorem d_MO_add_78 : decode c_MO_add 78 = .ok (.iconst 0, 1) := by decide +kernel
theorem d_MO_add_79 : decode c_MO_add 79 = .ok (.ireturn, 1) := by decide +kernel
theorem d_MO_add_80 : decode c_MO_add 80 = .ok (.aload_n 0, 1) := by decide +kernel
theorem d_MO_add_81 : decode c_MO_add 81 = .ok (.iload_n 3, 1) := by decide +kernel
theorem d_MO_add_82 : decode c_MO_add 82 = .ok (.iload_n 2, 1) := by decide +kernel
theorem d_MO_add_83 : decode c_MO_add 83 = .ok (.invokevirtual 244, 3) := by decide +kernel
theorem d_MO_add_86 : decode c_MO_add 86 = .ok (.istore 5, 2) := by decide +kernel
theorem d_MO_add_88 : decode c_MO_add 88 = .ok (.aload_n 0, 1) := by decide +kernel
theorem d_MO_add_89 : decode c_MO_add 89 = .ok (.getfield 13, 3) := by decide +kernel
theorem d_MO_add_92 : decode c_MO_add 92 = .ok (.iload 4, 2) := by decide +kernel
theorem d_MO_add_94 : decode c_MO_add 94 = .ok (.iaload, 1) := by decide +kernel
theorem d_MO_add_95 : decode c_MO_add 95 = .ok (.iconst 5, 1) := by decide +kernel
theorem d_MO_add_96 : decode c_MO_add 96 = .ok (.if_icmp .ne 88, 3) := by decide +kernel
theorem d_MO_add_99 : decode c_MO_add 99 = .ok (.aload_n 0, 1) := by decide +kernel
theorem d_MO_add_100 : decode c_MO_add 100 = .ok (.bipush 7, 2) := by decide +kernel
theorem d_MO_add_102 : decode c_MO_add 102 = .ok (.iload 4, 2) := by decide +kernel
theorem d_MO_add_104 : decode c_MO_add 104 = .ok (.invokevirtual 177, 3) := by decide +kernel
theorem d_MO_add_107 : decode c_MO_add 107 = .ok (.istore 6, 2) := by decide +kernel
theorem d_MO_add_109 : decode c_MO_add 109 = .ok (.aload_n 0, 1) := by decide +kernel
theorem d_MO_add_110 : decode c_MO_add 110 = .ok (.getfield 107, 3) := by decide +kernel
theorem d_MO_add_113 : decode c_MO_add 113 = .ok (.iconst 1, 1) := by decide +kernel
theorem d_MO_add_114 : decode c_MO_add 114 = .ok (.if_icmp .ne 19, 3) := by decide +kernel
theorem d_MO_add_117 : decode c_MO_add 117 = .ok (.aload_n 0, 1) := by decide +kernel
theorem d_MO_add_118 : decode c_MO_add 118 = .ok (.getfield 45, 3) := by decide +kernel
theorem d_MO_add_121 : decode c_MO_add 121 = .ok (.iconst 0, 1) := by decide +kernel
theorem d_MO_add_122 : decode c_MO_add 122 = .ok (.caload, 1) := by decide +kernel
theorem d_MO_add_123 : decode c_MO_add 123 = .ok (.bipush 45, 2) := by decide +kernel
theorem d_MO_add_125 : decode c_MO_add 125 = .ok (.if_icmp .ne 8, 3) := by decide +kernel
theorem d_MO_add_128 : decode c_MO_add 128 = .ok (.iload 6, 2) := by decide +kernel
theorem d_MO_add_130 : decode c_MO_add 130 = .ok (.goto 7, 3) := by decide +kernel
theorem d_MO_add_133 : decode c_MO_add 133 = .ok (.aload_n 0, 1) := by decide +kernel
theorem d_MO_add_134 : decode c_MO_add 134 = .ok (.invokevirtual 247, 3) := by decide +kernel
theorem d_MO_add_137 : decode c_MO_add 137 = .ok (.istore 7, 2) := by decide +kernel
theorem d_MO_add_139 : decode c_MO_add 139 = .ok (.iload 7, 2) := by decide +kernel
theorem d_MO_add_141 : decode c_MO_add 141 = .ok (.ifCond .lt 16, 3) := by decide +kernel
theorem d_MO_add_144 : decode c_MO_add 144 = .ok (.iload 7, 2) := by decide +kernel
theorem d_MO_add_146 : decode c_MO_add 146 = .ok (.iload 6, 2) := by decide +kernel
theorem d_MO_add_148 : decode c_MO_add 148 = .ok (.if_icmp .gt 9, 3) := by decide +kernel
theorem d_MO_add_151 : decode c_MO_add 151 = .ok (.iload 5, 2) := by decide +kernel
theorem d_MO_add_153 : decode c_MO_add 153 = .ok (.iload_n 2, 1) := by decide +kernel
theorem d_MO_add_154 : decode c_MO_add 154 = .ok (.if_icmp .eq 5, 3) := by decide +kernel
theorem d_MO_add_157 : decode c_MO_add 157 = .ok (.iconst 0, 1) := by decide +kernel
theorem d_MO_add_158 : decode c_MO_add 158 = .ok (.ireturn, 1) := by decide +kernel
theorem d_MO_add_159 : decode c_MO_add 159 = .ok (.aload_n 0, 1) := by decide +kernel
theorem d_MO_add_160 : decode c_MO_add 160 = .ok (.aload_n 0, 1) := by decide +kernel
theorem d_MO_add_161 : decode c_MO_add 161 = .ok (.bipush 7, 2) := by decide +kernel
theorem d_MO_add_163 : decode c_MO_add 163 = .ok (.iload 4, 2) := by decide +kernel
theorem d_MO_add_165 : decode c_MO_add 165 = .ok (.iload 7, 2) := by decide +kernel
theorem d_MO_add_167 : decode c_MO_add 167 = .ok (.invokevirtual 180, 3) := by decide +kernel
theorem d_MO_add_170 : decode c_MO_add 170 = .ok (.aload_n 0, 1) := by decide +kernel
theorem d_MO_add_171 : decode c_MO_add 171 = .ok (.getfield 16, 3) := by decide +kernel
theorem d_MO_add_174 : decode c_MO_add 174 = .ok (.iload 4, 2) := by decide +kernel
theorem d_MO_add_176 : decode c_MO_add 176 = .ok (.iaload, 1) := by decide +kernel
theorem d_MO_add_177 : decode c_MO_add 177 = .ok (.iconst 1, 1) := by decide +kernel
theorem d_MO_add_178 : decode c_MO_add 178 = .ok (.iadd, 1) := by decide +kernel
theorem d_MO_add_179 : decode c_MO_add 179 = .ok (.invokevirtual 241, 3) := by decide +kernel
theorem d_MO_add_182 : decode c_MO_add 182 = .ok (.iconst 1, 1) := by decide +kernel
theorem d_MO_add_183 : decode c_MO_add 183 = .ok (.ireturn, 1) := by decide +kernel
theorem d_MO_add_184 : decode c_MO_add 184 = .ok (.aload_n 0, 1) := by decide +kernel
theorem d_MO_add_185 : decode c_MO_add 185 = .ok (.bipush 7, 2) := by decide +kernel
theorem d_MO_add_187 : decode c_MO_add 187 = .ok (.iload 4, 2) := by decide +kernel
theorem d_MO_add_189 : decode c_MO_add 189 = .ok (.invokevirtual 170, 3) := by decide +kernel
theorem d_MO_add_192 : decode c_MO_add 192 = .ok (.istore 6, 2) := by decide +kernel
theorem d_MO_add_194 : decode c_MO_add 194 = .ok (.iload 6, 2) := by decide +kernel
theorem d_MO_add_196 : decode c_MO_add 196 = .ok (.ifCond .lt 8, 3) := by decide +kernel
theorem d_MO_add_199 : decode c_MO_add 199 = .ok (.iload 6, 2) := by decide +kernel
theorem d_MO_add_201 : decode c_MO_add 201 = .ok (.goto 11, 3) := by decide +kernel
theorem d_MO_add_204 : decode c_MO_add 204 = .ok (.aload_n 0, 1) := by decide +kernel
theorem d_MO_add_205 : decode c_MO_add 205 = .ok (.bipush 7, 2) := by decide +kernel
theorem d_MO_add_207 : decode c_MO_add 207 = .ok (.iload 4, 2) := by decide +kernel
theorem d_MO_add_209 : decode c_MO_add 209 = .ok (.invokevirtual 81, 3) := by decide +kernel
theorem d_MO_add_212 : decode c_MO_add 212 = .ok (.istore 7, 2) := by decide +kernel
theorem d_MO_add_214 : decode c_MO_add 214 = .ok (.aload_n 0, 1) := by decide +kernel
theorem d_MO_add_215 : decode c_MO_add 215 = .ok (.aload_n 0, 1) := by decide +kernel
theorem d_MO_add_216 : decode c_MO_add 216 = .ok (.getfield 107, 3) := by decide +kernel
theorem d_MO_add_219 : decode c_MO_add 219 = .ok (.putfield 88, 3) := by decide +kernel
theorem d_MO_add_222 : decode c_MO_add 222 = .ok (.aload_n 0, 1) := by decide +kernel
theorem d_MO_add_223 : decode c_MO_add 223 = .ok (.aload_n 0, 1) := by decide +kernel
theorem d_MO_add_224 : decode c_MO_add 224 = .ok (.invokevirtual 143, 3) := by decide +kernel
theorem d_MO_add_227 : decode c_MO_add 227 = .ok (.putfield 85, 3) := by decide +kernel
theorem d_MO_add_230 : decode c_MO_add 230 = .ok (.iload 6, 2) := by decide +kernel
theorem d_MO_add_232 : decode c_MO_add 232 = .ok (.ifCond .lt 9, 3) := by decide +kernel
theorem d_MO_add_235 : decode c_MO_add 235 = .ok (.aload_n 0, 1) := by decide +kernel
theorem d_MO_add_236 : decode c_MO_add 236 = .ok (.iload 6, 2) := by decide +kernel
theorem d_MO_add_238 : decode c_MO_add 238 = .ok (.invokevirtual 237, 3) := by decide +kernel
theorem d_MO_add_241 : decode c_MO_add 241 = .ok (.aload_n 0, 1) := by decide +kernel
theorem d_MO_add_242 : decode c_MO_add 242 = .ok (.iload 7, 2) := by decide +kernel
theorem d_MO_add_244 : decode c_MO_add 244 = .ok (.aload_n 0, 1) := by decide +kernel
theorem d_MO_add_245 : decode c_MO_add 245 = .ok (.getfield 16, 3) := by decide +kernel
theorem d_MO_add_248 : decode c_MO_add 248 = .ok (.iload 4, 2) := by decide +kernel
theorem d_MO_add_250 : decode c_MO_add 250 = .ok (.iaload, 1) := by decide +kernel
theorem d_MO_add_251 : decode c_MO_add 251 = .ok (.iconst 1, 1) := by decide +kernel
theorem d_MO_add_252 : decode c_MO_add 252 = .ok (.iadd, 1) := by decide +kernel
theorem d_MO_add_253 : decode c_MO_add 253 = .ok (.invokevirtual 241, 3) := by decide +kernel
theorem d_MO_add_256 : decode c_MO_add 256 = .ok (.iconst 1, 1) := by decide +kernel
theorem d_MO_add_257 : decode c_MO_add 257 = .ok (.ireturn, 1) := by decide +kernel
def ws_MO_add : List Cond := .code y_MO_add c_MO_add 8 (some .boolean) :: TBL
theorem d_MO_putIn_0 : decode c_MO_putIn 0 = .ok (.aload_n 0, 1) := by decide +kernel
theorem d_MO_putIn_1 : decode c_MO_putIn 1 = .ok (.getfield 7, 3) := by decide +kernel
theorem d_MO_putIn_4 : decode c_MO_putIn 4 = .ok (.bipush 9, 2) := by decide +kernel
theorem d_MO_putIn_6 : decode c_MO_putIn 6 = .ok (.iaload, 1) := by decide +kernel
theorem d_MO_putIn_7 : decode c_MO_putIn 7 = .ok (.istore_n 3, 1) := by decide +kernel
theorem d_MO_putIn_8 : decode c_MO_putIn 8 = .ok (.sipush 224, 3) := by decide +kernel
theorem d_MO_putIn_11 : decode c_MO_putIn 11 = .ok (.aload_n 0, 1) := by decide +kernel
theorem d_MO_putIn_12 : decode c_MO_putIn 12 = .ok (.getfield 7, 3) := by decide +kernel
theorem d_MO_putIn_15 : decode c_MO_putIn 15 = .ok (.bipush 7, 2) := by decide +kernel
theorem d_MO_putIn_17 : decode c_MO_putIn 17 = .ok (.iaload, 1) := by decide +kernel
theorem d_MO_putIn_18 : decode c_MO_putIn 18 = .ok (.iadd, 1) := by decide +kernel
theorem d_MO_putIn_19 : decode c_MO_putIn 19 = .ok (.iconst 1, 1) := by decide +kernel
theorem d_MO_putIn_20 : decode c_MO_putIn 20 = .ok (.isub, 1) := by decide +kernel
theorem d_MO_putIn_21 : decode c_MO_putIn 21 = .ok (.istore 4, 2) := by decide +kernel
theorem d_MO_putIn_23 : decode c_MO_putIn 23 = .ok (.iload 4, 2) := by decide +kernel
theorem d_MO_putIn_25 : decode c_MO_putIn 25 = .ok (.iload_n 1, 1) := by decide +kernel
theorem d_MO_putIn_26 : decode c_MO_putIn 26 = .ok (.if_icmp .lt 19, 3) := by decide +kernel
theorem d_MO_putIn_29 : decode c_MO_putIn 29 = .ok (.aload_n 0, 1) := by decide +kernel
theorem d_MO_putIn_30 : decode c_MO_putIn 30 = .ok (.iload 4, 2) := by decide +kernel
theorem d_MO_putIn_32 : decode c_MO_putIn 32 = .ok (.iload 4, 2) := by decide +kernel
theorem d_MO_putIn_34 : decode c_MO_putIn 34 = .ok (.iload_n 3, 1) := by decide +kernel
theorem d_MO_putIn_35 : decode c_MO_putIn 35 = .ok (.iadd, 1) := by decide +kernel
theorem d_MO_putIn_36 : decode c_MO_putIn 36 = .ok (.invokevirtual 77, 3) := by decide +kernel
theorem d_MO_putIn_39 : decode c_MO_putIn 39 = .ok (.iinc 4 (-1), 3) := by decide +kernel
theorem d_MO_putIn_42 : decode c_MO_putIn 42 = .ok (.goto (-19), 3) := by decide +kernel
theorem d_MO_putIn_45 : decode c_MO_putIn 45 = .ok (.aload_n 0, 1) := by decide +kernel
theorem d_MO_putIn_46 : decode c_MO_putIn 46 = .ok (.getfield 7, 3) := by decide +kernel
theorem d_MO_putIn_49 : decode c_MO_putIn 49 = .ok (.bipush 7, 2) := by decide +kernel
theorem d_MO_putIn_51 : decode c_MO_putIn 51 = .ok (.aload_n 0, 1) := by decide +kernel
theorem d_MO_putIn_52 : decode c_MO_putIn 52 = .ok (.getfield 7, 3) := by decide +kernel
theorem d_MO_putIn_55 : decode c_MO_putIn 55 = .ok (.bipush 7, 2) := by decide +kernel
theorem d_MO_putIn_57 : decode c_MO_putIn 57 = .ok (.iaload, 1) := by decide +kernel
theorem d_MO_putIn_58 : decode c_MO_putIn 58 = .ok (.iload_n 3, 1) := by decide +kernel
theorem d_MO_putIn_59 : decode c_MO_putIn 59 = .ok (.iadd, 1) := by decide +kernel
theorem d_MO_putIn_60 : decode c_MO_putIn 60 = .ok (.iastore, 1) := by decide +kernel
theorem d_MO_putIn_61 : decode c_MO_putIn 61 = .ok (.iconst 0, 1) := by decide +kernel
theorem d_MO_putIn_62 : decode c_MO_putIn 62 = .ok (.istore 4, 2) := by decide +kernel
theorem d_MO_putIn_64 : decode c_MO_putIn 64 = .ok (.iload 4, 2) := by decide +kernel
theorem d_MO_putIn_66 : decode c_MO_putIn 66 = .ok (.iload_n 3, 1) := by decide +kernel
theorem d_MO_putIn_67 : decode c_MO_putIn 67 = .ok (.if_icmp .ge 45, 3) := by decide +kernel
theorem d_MO_putIn_70 : decode c_MO_putIn 70 = .ok (.aload_n 0, 1) := by decide +kernel
theorem d_MO_putIn_71 : decode c_MO_putIn 71 = .ok (.sipush 480, 3) := by decide +kernel
theorem d_MO_putIn_74 : decode c_MO_putIn 74 = .ok (.iload 4, 2) := by decide +kernel
theorem d_MO_putIn_76 : decode c_MO_putIn 76 = .ok (.iadd, 1) := by decide +kernel
theorem d_MO_putIn_77 : decode c_MO_putIn 77 = .ok (.iload_n 1, 1) := by decide +kernel
theorem d_MO_putIn_78 : decode c_MO_putIn 78 = .ok (.iload 4, 2) := by decide +kernel
theorem d_MO_putIn_80 : decode c_MO_putIn 80 = .ok (.iadd, 1) := by decide +kernel
theorem d_MO_putIn_81 : decode c_MO_putIn 81 = .ok (.invokevirtual 77, 3) := by decide +kernel
theorem d_MO_putIn_84 : decode c_MO_putIn 84 = .ok (.aload_n 0, 1) := by decide +kernel
theorem d_MO_putIn_85 : decode c_MO_putIn 85 = .ok (.getfield 16, 3) := by decide +kernel
theorem d_MO_putIn_88 : decode c_MO_putIn 88 = .ok (.iload_n 1, 1) := by decide +kernel
theorem d_MO_putIn_89 : decode c_MO_putIn 89 = .ok (.iload 4, 2) := by decide +kernel
theorem d_MO_putIn_91 : decode c_MO_putIn 91 = .ok (.iadd, 1) := by decide +kernel
theorem d_MO_putIn_92 : decode c_MO_putIn 92 = .ok (.aload_n 0, 1) := by decide +kernel
theorem d_MO_putIn_93 : decode c_MO_putIn 93 = .ok (.getfield 16, 3) := by decide +kernel
theorem d_MO_putIn_96 : decode c_MO_putIn 96 = .ok (.sipush 480, 3) := by decide +kernel
theorem d_MO_putIn_99 : decode c_MO_putIn 99 = .ok (.iload 4, 2) := by decide +kernel
theorem d_MO_putIn_101 : decode c_MO_putIn 101 = .ok (.iadd, 1) := by decide +kernel
theorem d_MO_putIn_102 : decode c_MO_putIn 102 = .ok (.iaload, 1) := by decide +kernel
theorem d_MO_putIn_103 : decode c_MO_putIn 103 = .ok (.iload_n 2, 1) := by decide +kernel
theorem d_MO_putIn_104 : decode c_MO_putIn 104 = .ok (.iadd, 1) := by decide +kernel
theorem d_MO_putIn_105 : decode c_MO_putIn 105 = .ok (.iastore, 1) := by decide +kernel
theorem d_MO_putIn_106 : decode c_MO_putIn 106 = .ok (.iinc 4 1, 3) := by decide +kernel
theorem d_MO_putIn_109 : decode c_MO_putIn 109 = .ok (.goto (-45), 3) := by decide +kernel
theorem d_MO_putIn_112 : decode c_MO_putIn 112 = .ok (.aload_n 0, 1) := by decide +kernel
theorem d_MO_putIn_113 : decode c_MO_putIn 113 = .ok (.getfield 25, 3) := by decide +kernel
theorem d_MO_putIn_116 : decode c_MO_putIn 116 = .ok (.iload_n 1, 1) := by decide +kernel
theorem d_MO_putIn_117 : decode c_MO_putIn 117 = .ok (.aload_n 0, 1) := by decide +kernel
theorem d_MO_putIn_118 : decode c_MO_putIn 118 = .ok (.getfield 85, 3) := by decide +kernel
theorem d_MO_putIn_121 : decode c_MO_putIn 121 = .ok (.iastore, 1) := by decide +kernel
theorem d_MO_putIn_122 : decode c_MO_putIn 122 = .ok (.aload_n 0, 1) := by decide +kernel
theorem d_MO_putIn_123 : decode c_MO_putIn 123 = .ok (.getfield 28, 3) := by decide +kernel
theorem d_MO_putIn_126 : decode c_MO_putIn 126 = .ok (.iload_n 1, 1) := by decide +kernel
theorem d_MO_putIn_127 : decode c_MO_putIn 127 = .ok (.aload_n 0, 1) := by decide +kernel
theorem d_MO_putIn_128 : decode c_MO_putIn 128 = .ok (.getfield 88, 3) := by decide +kernel
theorem d_MO_putIn_131 : decode c_MO_putIn 131 = .ok (.iastore, 1) := by decide +kernel
theorem d_MO_putIn_132 : decode c_MO_putIn 132 = .ok (.return_, 1) := by decide +kernel
def ws_MO_putIn : List Cond := .code y_MO_putIn c_MO_putIn 5 none :: TBL
theorem d_MO_lead_0 : decode c_MO_lead 0 = .ok (.sipush 224, 3) := by decide +kernel
theorem d_MO_lead_3 : decode c_MO_lead 3 = .ok (.istore_n 3, 1) := by decide +kernel
theorem d_MO_lead_4 : decode c_MO_lead 4 = .ok (.iload_n 1, 1) := by decide +kernel
theorem d_MO_lead_5 : decode c_MO_lead 5 = .ok (.istore 4, 2) := by decide +kernel
theorem d_MO_lead_7 : decode c_MO_lead 7 = .ok (.iload 4, 2) := by decide +kernel
theorem d_MO_lead_9 : decode c_MO_lead 9 = .ok (.iload_n 2, 1) := by decide +kernel
theorem d_MO_lead_10 : decode c_MO_lead 10 = .ok (.if_icmp .ge 52, 3) := by decide +kernel
theorem d_MO_lead_13 : decode c_MO_lead 13 = .ok (.iload_n 3, 1) := by decide +kernel
theorem d_MO_lead_14 : decode c_MO_lead 14 = .ok (.ifCond .lt 48, 3) := by decide +kernel
theorem d_MO_lead_17 : decode c_MO_lead 17 = .ok (.aload_n 0, 1) := by decide +kernel
theorem d_MO_lead_18 : decode c_MO_lead 18 = .ok (.iload 4, 2) := by decide +kernel
theorem d_MO_lead_20 : decode c_MO_lead 20 = .ok (.iload_n 2, 1) := by decide +kernel
theorem d_MO_lead_21 : decode c_MO_lead 21 = .ok (.invokevirtual 244, 3) := by decide +kernel
theorem d_MO_lead_24 : decode c_MO_lead 24 = .ok (.istore 4, 2) := by decide +kernel
theorem d_MO_lead_26 : decode c_MO_lead 26 = .ok (.aload_n 0, 1) := by decide +kernel
theorem d_MO_lead_27 : decode c_MO_lead 27 = .ok (.getfield 13, 3) := by decide +kernel
theorem d_MO_lead_30 : decode c_MO_lead 30 = .ok (.iload_n 3, 1) := by decide +kernel
theorem d_MO_lead_31 : decode c_MO_lead 31 = .ok (.iaload, 1) := by decide +kernel
theorem d_MO_lead_32 : decode c_MO_lead 32 = .ok (.bipush 6, 2) := by decide +kernel
theorem d_MO_lead_34 : decode c_MO_lead 34 = .ok (.if_icmp .ne 13, 3) := by decide +kernel
theorem d_MO_lead_37 : decode c_MO_lead 37 = .ok (.aload_n 0, 1) := by decide +kernel
theorem d_MO_lead_38 : decode c_MO_lead 38 = .ok (.bipush 7, 2) := by decide +kernel
theorem d_MO_lead_40 : decode c_MO_lead 40 = .ok (.iload_n 3, 1) := by decide +kernel
theorem d_MO_lead_41 : decode c_MO_lead 41 = .ok (.invokevirtual 170, 3) := by decide +kernel
theorem d_MO_lead_44 : decode c_MO_lead 44 = .ok (.goto 14, 3) := by decide +kernel
theorem d_MO_lead_47 : decode c_MO_lead 47 = .ok (.aload_n 0, 1) := by decide +kernel
theorem d_MO_lead_48 : decode c_MO_lead 48 = .ok (.bipush 7, 2) := by decide +kernel
theorem d_MO_lead_50 : decode c_MO_lead 50 = .ok (.iload_n 3, 1) := by decide +kernel
theorem d_MO_lead_51 : decode c_MO_lead 51 = .ok (.aload_n 0, 1) := by decide +kernel
theorem d_MO_lead_52 : decode c_MO_lead 52 = .ok (.invokevirtual 247, 3) := by decide +kernel
theorem d_MO_lead_55 : decode c_MO_lead 55 = .ok (.invokevirtual 250, 3) := by decide +kernel
theorem d_MO_lead_58 : decode c_MO_lead 58 = .ok (.istore_n 3, 1) := by decide +kernel
theorem d_MO_lead_59 : decode c_MO_lead 59 = .ok (.goto (-52), 3) := by decide +kernel
theorem d_MO_lead_62 : decode c_MO_lead 62 = .ok (.iload_n 3, 1) := by decide +kernel
theorem d_MO_lead_63 : decode c_MO_lead 63 = .ok (.ireturn, 1) := by decide +kernel
def ws_MO_lead : List Cond := .code y_MO_lead c_MO_lead 5 (some .int) :: TBL
theorem d_MO_step_0 : decode c_MO_step 0 = .ok (.iload_n 1, 1) := by decide +kernel
theorem d_MO_step_1 : decode c_MO_step 1 = .ok (.iconst 1, 1) := by decide +kernel
theorem d_MO_step_2 : decode c_MO_step 2 = .ok (.iadd, 1) := by decide +kernel
theorem d_MO_step_3 : decode c_MO_step 3 = .ok (.istore_n 3, 1) := by decide +kernel
theorem d_MO_step_4 : decode c_MO_step 4 = .ok (.aload_n 0, 1) := by decide +kernel
theorem d_MO_step_5 : decode c_MO_step 5 = .ok (.iconst 0, 1) := by decide +kernel
theorem d_MO_step_6 : decode c_MO_step 6 = .ok (.putfield 107, 3) := by decide +kernel
theorem d_MO_step_9 : decode c_MO_step 9 = .ok (.iload_n 3, 1) := by decide +kernel
theorem d_MO_step_10 : decode c_MO_step 10 = .ok (.iload_n 2, 1) := by decide +kernel
theorem d_MO_step_11 : decode c_MO_step 11 = .ok (.if_icmp .ge 103, 3) := by decide +kernel
theorem d_MO_step_14 : decode c_MO_step 14 = .ok (.aload_n 0, 1) := by decide +kernel
theorem d_MO_step_15 : decode c_MO_step 15 = .ok (.getfield 35, 3) := by decide +kernel
theorem d_MO_step_18 : decode c_MO_step 18 = .ok (.iload_n 3, 1) := by decide +kernel
theorem d_MO_step_19 : decode c_MO_step 19 = .ok (.caload, 1) := by decide +kernel
theorem d_MO_step_20 : decode c_MO_step 20 = .ok (.bipush 47, 2) := by decide +kernel
theorem d_MO_step_22 : decode c_MO_step 22 = .ok (.if_icmp .eq 92, 3) := by decide +kernel
theorem d_MO_step_25 : decode c_MO_step 25 = .ok (.aload_n 0, 1) := by decide +kernel
theorem d_MO_step_26 : decode c_MO_step 26 = .ok (.getfield 35, 3) := by decide +kernel
theorem d_MO_step_29 : decode c_MO_step 29 = .ok (.iload_n 3, 1) := by decide +kernel
theorem d_MO_step_30 : decode c_MO_step 30 = .ok (.caload, 1) := by decide +kernel
theorem d_MO_step_31 : decode c_MO_step 31 = .ok (.bipush 126, 2) := by decide +kernel
theorem d_MO_step_33 : decode c_MO_step 33 = .ok (.if_icmp .ne 7, 3) := by decide +kernel
theorem d_MO_step_36 : decode c_MO_step 36 = .ok (.iconst 1, 1) := by decide +kernel
theorem d_MO_step_37 : decode c_MO_step 37 = .ok (.goto 4, 3) := by decide +kernel
theorem d_MO_step_40 : decode c_MO_step 40 = .ok (.iconst 0, 1) := by decide +kernel
theorem d_MO_step_41 : decode c_MO_step 41 = .ok (.istore 4, 2) := by decide +kernel
theorem d_MO_step_43 : decode c_MO_step 43 = .ok (.aload_n 0, 1) := by decide +kernel
theorem d_MO_step_44 : decode c_MO_step 44 = .ok (.getfield 45, 3) := by decide +kernel
theorem d_MO_step_47 : decode c_MO_step 47 = .ok (.aload_n 0, 1) := by decide +kernel
theorem d_MO_step_48 : decode c_MO_step 48 = .ok (.getfield 107, 3) := by decide +kernel
theorem d_MO_step_51 : decode c_MO_step 51 = .ok (.iload 4, 2) := by decide +kernel
theorem d_MO_step_53 : decode c_MO_step 53 = .ok (.ifCond .ne 12, 3) := by decide +kernel
theorem d_MO_step_56 : decode c_MO_step 56 = .ok (.aload_n 0, 1) := by decide +kernel
theorem d_MO_step_57 : decode c_MO_step 57 = .ok (.getfield 35, 3) := by decide +kernel
theorem d_MO_step_60 : decode c_MO_step 60 = .ok (.iload_n 3, 1) := by decide +kernel
theorem d_MO_step_61 : decode c_MO_step 61 = .ok (.caload, 1) := by decide +kernel
theorem d_MO_step_62 : decode c_MO_step 62 = .ok (.goto 23, 3) := by decide +kernel
theorem d_MO_step_65 : decode c_MO_step 65 = .ok (.aload_n 0, 1) := by decide +kernel
theorem d_MO_step_66 : decode c_MO_step 66 = .ok (.getfield 35, 3) := by decide +kernel
theorem d_MO_step_69 : decode c_MO_step 69 = .ok (.iload_n 3, 1) := by decide +kernel
theorem d_MO_step_70 : decode c_MO_step 70 = .ok (.iconst 1, 1) := by decide +kernel
theorem d_MO_step_71 : decode c_MO_step 71 = .ok (.iadd, 1) := by decide +kernel
theorem d_MO_step_72 : decode c_MO_step 72 = .ok (.caload, 1) := by decide +kernel
theorem d_MO_step_73 : decode c_MO_step 73 = .ok (.bipush 48, 2) := by decide +kernel
theorem d_MO_step_75 : decode c_MO_step 75 = .ok (.if_icmp .ne 8, 3) := by decide +kernel
theorem d_MO_step_78 : decode c_MO_step 78 = .ok (.bipush 126, 2) := by decide +kernel
theorem d_MO_step_80 : decode c_MO_step 80 = .ok (.goto 5, 3) := by decide +kernel
theorem d_MO_step_83 : decode c_MO_step 83 = .ok (.bipush 47, 2) := by decide +kernel
theorem d_MO_step_85 : decode c_MO_step 85 = .ok (.castore, 1) := by decide +kernel
theorem d_MO_step_86 : decode c_MO_step 86 = .ok (.aload_n 0, 1) := by decide +kernel
theorem d_MO_step_87 : decode c_MO_step 87 = .ok (.dup, 1) := by decide +kernel
theorem d_MO_step_88 : decode c_MO_step 88 = .ok (.getfield 107, 3) := by decide +kernel
theorem d_MO_step_91 : decode c_MO_step 91 = .ok (.iconst 1, 1) := by decide +kernel
theorem d_MO_step_92 : decode c_MO_step 92 = .ok (.iadd, 1) := by decide +kernel
theorem d_MO_step_93 : decode c_MO_step 93 = .ok (.putfield 107, 3) := by decide +kernel
theorem d_MO_step_96 : decode c_MO_step 96 = .ok (.iload 4, 2) := by decide +kernel
theorem d_MO_step_98 : decode c_MO_step 98 = .ok (.ifCond .eq 9, 3) := by decide +kernel
theorem d_MO_step_101 : decode c_MO_step 101 = .ok (.iload_n 3, 1) := by decide +kernel
theorem d_MO_step_102 : decode c_MO_step 102 = .ok (.iconst 2, 1) := by decide +kernel
theorem d_MO_step_103 : decode c_MO_step 103 = .ok (.iadd, 1) := by decide +kernel
theorem d_MO_step_104 : decode c_MO_step 104 = .ok (.goto 6, 3) := by decide +kernel
theorem d_MO_step_107 : decode c_MO_step 107 = .ok (.iload_n 3, 1) := by decide +kernel
theorem d_MO_step_108 : decode c_MO_step 108 = .ok (.iconst 1, 1) := by decide +kernel
theorem d_MO_step_109 : decode c_MO_step 109 = .ok (.iadd, 1) := by decide +kernel
theorem d_MO_step_110 : decode c_MO_step 110 = .ok (.istore_n 3, 1) := by decide +kernel
theorem d_MO_step_111 : decode c_MO_step 111 = .ok (.goto (-102), 3) := by decide +kernel
theorem d_MO_step_114 : decode c_MO_step 114 = .ok (.iload_n 3, 1) := by decide +kernel
theorem d_MO_step_115 : decode c_MO_step 115 = .ok (.ireturn, 1) := by decide +kernel
def ws_MO_step : List Cond := .code y_MO_step c_MO_step 5 (some .int) :: TBL
theorem d_MO_wordNumber_0 : decode c_MO_wordNumber 0 = .ok (.aload_n 0, 1) := by decide +kernel
theorem d_MO_wordNumber_1 : decode c_MO_wordNumber 1 = .ok (.getfield 107, 3) := by decide +kernel
theorem d_MO_wordNumber_4 : decode c_MO_wordNumber 4 = .ok (.iconst 1, 1) := by decide +kernel
theorem d_MO_wordNumber_5 : decode c_MO_wordNumber 5 = .ok (.if_icmp .lt 30, 3) := by decide +kernel
theorem d_MO_wordNumber_8 : decode c_MO_wordNumber 8 = .ok (.aload_n 0, 1) := by decide +kernel
theorem d_MO_wordNumber_9 : decode c_MO_wordNumber 9 = .ok (.getfield 107, 3) := by decide +kernel
theorem d_MO_wordNumber_12 : decode c_MO_wordNumber 12 = .ok (.iconst 3, 1) := by decide +kernel
theorem d_MO_wordNumber_13 : decode c_MO_wordNumber 13 = .ok (.if_icmp .gt 22, 3) := by decide +kernel
theorem d_MO_wordNumber_16 : decode c_MO_wordNumber 16 = .ok (.aload_n 0, 1) := by decide +kernel
theorem d_MO_wordNumber_17 : decode c_MO_wordNumber 17 = .ok (.getfield 107, 3) := by decide +kernel
theorem d_MO_wordNumber_20 : decode c_MO_wordNumber 20 = .ok (.iconst 1, 1) := by decide +kernel
theorem d_MO_wordNumber_21 : decode c_MO_wordNumber 21 = .ok (.if_icmp .le 16, 3) := by decide +kernel
theorem d_MO_wordNumber_24 : decode c_MO_wordNumber 24 = .ok (.aload_n 0, 1) := by decide +kernel
theorem d_MO_wordNumber_25 : decode c_MO_wordNumber 25 = .ok (.getfield 45, 3) := by decide +kernel
theorem d_MO_wordNumber_28 : decode c_MO_wordNumber 28 = .ok (.iconst 0, 1) := by decide +kernel
theorem d_MO_wordNumber_29 : decode c_MO_wordNumber 29 = .ok (.caload, 1) := by decide +kernel
theorem d_MO_wordNumber_30 : decode c_MO_wordNumber 30 = .ok (.bipush 48, 2) := by decide +kernel
theorem d_MO_wordNumber_32 : decode c_MO_wordNumber 32 = .ok (.if_icmp .ne 5, 3) := by decide +kernel
theorem d_MO_wordNumber_35 : decode c_MO_wordNumber 35 = .ok (.iconst (-1), 1) := by decide +kernel
theorem d_MO_wordNumber_36 : decode c_MO_wordNumber 36 = .ok (.ireturn, 1) := by decide +kernel
theorem d_MO_wordNumber_37 : decode c_MO_wordNumber 37 = .ok (.iconst 0, 1) := by decide +kernel
theorem d_MO_wordNumber_38 : decode c_MO_wordNumber 38 = .ok (.istore_n 1, 1) := by decide +kernel
theorem d_MO_wordNumber_39 : decode c_MO_wordNumber 39 = .ok (.iconst 0, 1) := by decide +kernel
theorem d_MO_wordNumber_40 : decode c_MO_wordNumber 40 = .ok (.istore_n 2, 1) := by decide +kernel
theorem d_MO_wordNumber_41 : decode c_MO_wordNumber 41 = .ok (.iload_n 2, 1) := by decide +kernel
theorem d_MO_wordNumber_42 : decode c_MO_wordNumber 42 = .ok (.aload_n 0, 1) := by decide +kernel
theorem d_MO_wordNumber_43 : decode c_MO_wordNumber 43 = .ok (.getfield 107, 3) := by decide +kernel
theorem d_MO_wordNumber_46 : decode c_MO_wordNumber 46 = .ok (.if_icmp .ge 38, 3) := by decide +kernel
theorem d_MO_wordNumber_49 : decode c_MO_wordNumber 49 = .ok (.aload_n 0, 1) := by decide +kernel
theorem d_MO_wordNumber_50 : decode c_MO_wordNumber 50 = .ok (.getfield 45, 3) := by decide +kernel
theorem d_MO_wordNumber_53 : decode c_MO_wordNumber 53 = .ok (.iload_n 2, 1) := by decide +kernel
theorem d_MO_wordNumber_54 : decode c_MO_wordNumber 54 = .ok (.caload, 1) := by decide +kernel
theorem d_MO_wordNumber_55 : decode c_MO_wordNumber 55 = .ok (.invokestatic 110, 3) := by decide +kernel
theorem d_MO_wordNumber_58 : decode c_MO_wordNumber 58 = .ok (.ifCond .ne 5, 3) := by decide +kernel
theorem d_MO_wordNumber_61 : decode c_MO_wordNumber 61 = .ok (.iconst (-1), 1) := by decide +kernel
theorem d_MO_wordNumber_62 : decode c_MO_wordNumber 62 = .ok (.ireturn, 1) := by decide +kernel
theorem d_MO_wordNumber_63 : decode c_MO_wordNumber 63 = .ok (.bipush 10, 2) := by decide +kernel
theorem d_MO_wordNumber_65 : decode c_MO_wordNumber 65 = .ok (.iload_n 1, 1) := by decide +kernel
theorem d_MO_wordNumber_66 : decode c_MO_wordNumber 66 = .ok (.imul, 1) := by decide +kernel
theorem d_MO_wordNumber_67 : decode c_MO_wordNumber 67 = .ok (.aload_n 0, 1) := by decide +kernel
theorem d_MO_wordNumber_68 : decode c_MO_wordNumber 68 = .ok (.getfield 45, 3) := by decide +kernel
theorem d_MO_wordNumber_71 : decode c_MO_wordNumber 71 = .ok (.iload_n 2, 1) := by decide +kernel
theorem d_MO_wordNumber_72 : decode c_MO_wordNumber 72 = .ok (.caload, 1) := by decide +kernel
theorem d_MO_wordNumber_73 : decode c_MO_wordNumber 73 = .ok (.iadd, 1) := by decide +kernel
theorem d_MO_wordNumber_74 : decode c_MO_wordNumber 74 = .ok (.bipush 48, 2) := by decide +kernel
theorem d_MO_wordNumber_76 : decode c_MO_wordNumber 76 = .ok (.isub, 1) := by decide +kernel
theorem d_MO_wordNumber_77 : decode c_MO_wordNumber 77 = .ok (.istore_n 1, 1) := by decide +kernel
theorem d_MO_wordNumber_78 : decode c_MO_wordNumber 78 = .ok (.iinc 2 1, 3) := by decide +kernel
theorem d_MO_wordNumber_81 : decode c_MO_wordNumber 81 = .ok (.goto (-40), 3) := by decide +kernel
theorem d_MO_wordNumber_84 : decode c_MO_wordNumber 84 = .ok (.iload_n 1, 1) := by decide +kernel
theorem d_MO_wordNumber_85 : decode c_MO_wordNumber 85 = .ok (.ireturn, 1) := by decide +kernel
def ws_MO_wordNumber : List Cond := .code y_MO_wordNumber c_MO_wordNumber 3 (some .int) :: TBL
theorem d_MO_element_0 : decode c_MO_element 0 = .ok (.iload_n 2, 1) := by decide +kernel
theorem d_MO_element_1 : decode c_MO_element 1 = .ok (.ifCond .lt 27, 3) := by decide +kernel
theorem d_MO_element_4 : decode c_MO_element 4 = .ok (.aload_n 0, 1) := by decide +kernel
theorem d_MO_element_5 : decode c_MO_element 5 = .ok (.getfield 13, 3) := by decide +kernel
theorem d_MO_element_8 : decode c_MO_element 8 = .ok (.iload_n 2, 1) := by decide +kernel
theorem d_MO_element_9 : decode c_MO_element 9 = .ok (.iaload, 1) := by decide +kernel
theorem d_MO_element_10 : decode c_MO_element 10 = .ok (.iconst 5, 1) := by decide +kernel
theorem d_MO_element_11 : decode c_MO_element 11 = .ok (.if_icmp .ne 17, 3) := by decide +kernel
theorem d_MO_element_14 : decode c_MO_element 14 = .ok (.iload_n 3, 1) := by decide +kernel
theorem d_MO_element_15 : decode c_MO_element 15 = .ok (.ifCond .lt 13, 3) := by decide +kernel
theorem d_MO_element_18 : decode c_MO_element 18 = .ok (.iload_n 3, 1) := by decide +kernel
theorem d_MO_element_19 : decode c_MO_element 19 = .ok (.aload_n 0, 1) := by decide +kernel
theorem d_MO_element_20 : decode c_MO_element 20 = .ok (.iload_n 1, 1) := by decide +kernel
theorem d_MO_element_21 : decode c_MO_element 21 = .ok (.iload_n 2, 1) := by decide +kernel
theorem d_MO_element_22 : decode c_MO_element 22 = .ok (.invokevirtual 177, 3) := by decide +kernel
theorem d_MO_element_25 : decode c_MO_element 25 = .ok (.if_icmp .lt 5, 3) := by decide +kernel
theorem d_MO_element_28 : decode c_MO_element 28 = .ok (.iconst (-1), 1) := by decide +kernel
theorem d_MO_element_29 : decode c_MO_element 29 = .ok (.ireturn, 1) := by decide +kernel
theorem d_MO_element_30 : decode c_MO_element 30 = .ok (.aload_n 0, 1) := by decide +kernel
theorem d_MO_element_31 : decode c_MO_element 31 = .ok (.iload_n 1, 1) := by decide +kernel
theorem d_MO_element_32 : decode c_MO_element 32 = .ok (.iload_n 2, 1) := by decide +kernel
theorem d_MO_element_33 : decode c_MO_element 33 = .ok (.iload_n 3, 1) := by decide +kernel
theorem d_MO_element_34 : decode c_MO_element 34 = .ok (.invokevirtual 180, 3) := by decide +kernel
theorem d_MO_element_37 : decode c_MO_element 37 = .ok (.ireturn, 1) := by decide +kernel
def ws_MO_element : List Cond := .code y_MO_element c_MO_element 4 (some .int) :: TBL
theorem d_MO_inside_0 : decode c_MO_inside 0 = .ok (.iconst 0, 1) := by decide +kernel
theorem d_MO_inside_1 : decode c_MO_inside 1 = .ok (.istore_n 3, 1) := by decide +kernel
theorem d_MO_inside_2 : decode c_MO_inside 2 = .ok (.aload_n 0, 1) := by decide +kernel
theorem d_MO_inside_3 : decode c_MO_inside 3 = .ok (.iload_n 1, 1) := by decide +kernel
theorem d_MO_inside_4 : decode c_MO_inside 4 = .ok (.iload_n 2, 1) := by decide +kernel
theorem d_MO_inside_5 : decode c_MO_inside 5 = .ok (.invokevirtual 81, 3) := by decide +kernel
theorem d_MO_inside_8 : decode c_MO_inside 8 = .ok (.istore 4, 2) := by decide +kernel
theorem d_MO_inside_10 : decode c_MO_inside 10 = .ok (.iload_n 2, 1) := by decide +kernel
theorem d_MO_inside_11 : decode c_MO_inside 11 = .ok (.iconst 1, 1) := by decide +kernel
theorem d_MO_inside_12 : decode c_MO_inside 12 = .ok (.iadd, 1) := by decide +kernel
theorem d_MO_inside_13 : decode c_MO_inside 13 = .ok (.istore 5, 2) := by decide +kernel
theorem d_MO_inside_15 : decode c_MO_inside 15 = .ok (.iload 5, 2) := by decide +kernel
theorem d_MO_inside_17 : decode c_MO_inside 17 = .ok (.iload 4, 2) := by decide +kernel
theorem d_MO_inside_19 : decode c_MO_inside 19 = .ok (.if_icmp .ge 18, 3) := by decide +kernel
theorem d_MO_inside_22 : decode c_MO_inside 22 = .ok (.iinc 3 1, 3) := by decide +kernel
theorem d_MO_inside_25 : decode c_MO_inside 25 = .ok (.aload_n 0, 1) := by decide +kernel
theorem d_MO_inside_26 : decode c_MO_inside 26 = .ok (.iload_n 1, 1) := by decide +kernel
theorem d_MO_inside_27 : decode c_MO_inside 27 = .ok (.iload 5, 2) := by decide +kernel
theorem d_MO_inside_29 : decode c_MO_inside 29 = .ok (.invokevirtual 81, 3) := by decide +kernel
theorem d_MO_inside_32 : decode c_MO_inside 32 = .ok (.istore 5, 2) := by decide +kernel
theorem d_MO_inside_34 : decode c_MO_inside 34 = .ok (.goto (-19), 3) := by decide +kernel
theorem d_MO_inside_37 : decode c_MO_inside 37 = .ok (.iload_n 3, 1) := by decide +kernel
theorem d_MO_inside_38 : decode c_MO_inside 38 = .ok (.ireturn, 1) := by decide +kernel
def ws_MO_inside : List Cond := .code y_MO_inside c_MO_inside 6 (some .int) :: TBL
theorem d_MO_child_0 : decode c_MO_child 0 = .ok (.iload_n 2, 1) := by decide +kernel
theorem d_MO_child_1 : decode c_MO_child 1 = .ok (.iconst 1, 1) := by decide +kernel
theorem d_MO_child_2 : decode c_MO_child 2 = .ok (.iadd, 1) := by decide +kernel
theorem d_MO_child_3 : decode c_MO_child 3 = .ok (.istore 4, 2) := by decide +kernel
theorem d_MO_child_5 : decode c_MO_child 5 = .ok (.iconst 0, 1) := by decide +kernel
theorem d_MO_child_6 : decode c_MO_child 6 = .ok (.istore 5, 2) := by decide +kernel
theorem d_MO_child_8 : decode c_MO_child 8 = .ok (.iload 5, 2) := by decide +kernel
theorem d_MO_child_10 : decode c_MO_child 10 = .ok (.iload_n 3, 1) := by decide +kernel
theorem d_MO_child_11 : decode c_MO_child 11 = .ok (.if_icmp .ge 18, 3) := by decide +kernel
theorem d_MO_child_14 : decode c_MO_child 14 = .ok (.aload_n 0, 1) := by decide +kernel
theorem d_MO_child_15 : decode c_MO_child 15 = .ok (.iload_n 1, 1) := by decide +kernel
theorem d_MO_child_16 : decode c_MO_child 16 = .ok (.iload 4, 2) := by decide +kernel
theorem d_MO_child_18 : decode c_MO_child 18 = .ok (.invokevirtual 81, 3) := by decide +kernel
theorem d_MO_child_21 : decode c_MO_child 21 = .ok (.istore 4, 2) := by decide +kernel
theorem d_MO_child_23 : decode c_MO_child 23 = .ok (.iinc 5 1, 3) := by decide +kernel
theorem d_MO_child_26 : decode c_MO_child 26 = .ok (.goto (-18), 3) := by decide +kernel
theorem d_MO_child_29 : decode c_MO_child 29 = .ok (.iload 4, 2) := by decide +kernel
theorem d_MO_child_31 : decode c_MO_child 31 = .ok (.ireturn, 1) := by decide +kernel
def ws_MO_child : List Cond := .code y_MO_child c_MO_child 6 (some .int) :: TBL
theorem d_MO_cutOut_0 : decode c_MO_cutOut 0 = .ok (.aload_n 0, 1) := by decide +kernel
theorem d_MO_cutOut_1 : decode c_MO_cutOut 1 = .ok (.bipush 7, 2) := by decide +kernel
theorem d_MO_cutOut_3 : decode c_MO_cutOut 3 = .ok (.iload_n 1, 1) := by decide +kernel
theorem d_MO_cutOut_4 : decode c_MO_cutOut 4 = .ok (.invokevirtual 81, 3) := by decide +kernel
theorem d_MO_cutOut_7 : decode c_MO_cutOut 7 = .ok (.iload_n 1, 1) := by decide +kernel
theorem d_MO_cutOut_8 : decode c_MO_cutOut 8 = .ok (.isub, 1) := by decide +kernel
theorem d_MO_cutOut_9 : decode c_MO_cutOut 9 = .ok (.istore_n 2, 1) := by decide +kernel
theorem d_MO_cutOut_10 : decode c_MO_cutOut 10 = .ok (.aload_n 0, 1) := by decide +kernel
theorem d_MO_cutOut_11 : decode c_MO_cutOut 11 = .ok (.getfield 7, 3) := by decide +kernel
theorem d_MO_cutOut_14 : decode c_MO_cutOut 14 = .ok (.bipush 7, 2) := by decide +kernel
theorem d_MO_cutOut_16 : decode c_MO_cutOut 16 = .ok (.aload_n 0, 1) := by decide +kernel
theorem d_MO_cutOut_17 : decode c_MO_cutOut 17 = .ok (.getfield 7, 3) := by decide +kernel
theorem d_MO_cutOut_20 : decode c_MO_cutOut 20 = .ok (.bipush 7, 2) := by decide +kernel
theorem d_MO_cutOut_22 : decode c_MO_cutOut 22 = .ok (.iaload, 1) := by decide +kernel
theorem d_MO_cutOut_23 : decode c_MO_cutOut 23 = .ok (.iload_n 2, 1) := by decide +kernel
theorem d_MO_cutOut_24 : decode c_MO_cutOut 24 = .ok (.isub, 1) := by decide +kernel
theorem d_MO_cutOut_25 : decode c_MO_cutOut 25 = .ok (.iastore, 1) := by decide +kernel
theorem d_MO_cutOut_26 : decode c_MO_cutOut 26 = .ok (.iload_n 1, 1) := by decide +kernel
theorem d_MO_cutOut_27 : decode c_MO_cutOut 27 = .ok (.istore_n 3, 1) := by decide +kernel
theorem d_MO_cutOut_28 : decode c_MO_cutOut 28 = .ok (.iload_n 3, 1) := by decide +kernel
theorem d_MO_cutOut_29 : decode c_MO_cutOut 29 = .ok (.sipush 224, 3) := by decide +kernel
theorem d_MO_cutOut_32 : decode c_MO_cutOut 32 = .ok (.aload_n 0, 1) := by decide +kernel
theorem d_MO_cutOut_33 : decode c_MO_cutOut 33 = .ok (.getfield 7, 3) := by decide +kernel
theorem d_MO_cutOut_36 : decode c_MO_cutOut 36 = .ok (.bipush 7, 2) := by decide +kernel
theorem d_MO_cutOut_38 : decode c_MO_cutOut 38 = .ok (.iaload, 1) := by decide +kernel
theorem d_MO_cutOut_39 : decode c_MO_cutOut 39 = .ok (.iadd, 1) := by decide +kernel
theorem d_MO_cutOut_40 : decode c_MO_cutOut 40 = .ok (.if_icmp .ge 17, 3) := by decide +kernel
theorem d_MO_cutOut_43 : decode c_MO_cutOut 43 = .ok (.aload_n 0, 1) := by decide +kernel
theorem d_MO_cutOut_44 : decode c_MO_cutOut 44 = .ok (.iload_n 3, 1) := by decide +kernel
theorem d_MO_cutOut_45 : decode c_MO_cutOut 45 = .ok (.iload_n 2, 1) := by decide +kernel
theorem d_MO_cutOut_46 : decode c_MO_cutOut 46 = .ok (.iadd, 1) := by decide +kernel
theorem d_MO_cutOut_47 : decode c_MO_cutOut 47 = .ok (.iload_n 3, 1) := by decide +kernel
theorem d_MO_cutOut_48 : decode c_MO_cutOut 48 = .ok (.invokevirtual 77, 3) := by decide +kernel
theorem d_MO_cutOut_51 : decode c_MO_cutOut 51 = .ok (.iinc 3 1, 3) := by decide +kernel
theorem d_MO_cutOut_54 : decode c_MO_cutOut 54 = .ok (.goto (-26), 3) := by decide +kernel
theorem d_MO_cutOut_57 : decode c_MO_cutOut 57 = .ok (.return_, 1) := by decide +kernel
def ws_MO_cutOut : List Cond := .code y_MO_cutOut c_MO_cutOut 4 none :: TBL
theorem d_MO_carry_0 : decode c_MO_carry 0 = .ok (.aload_n 0, 1) := by decide +kernel
theorem d_MO_carry_1 : decode c_MO_carry 1 = .ok (.getfield 19, 3) := by decide +kernel
theorem d_MO_carry_4 : decode c_MO_carry 4 = .ok (.iload_n 1, 1) := by decide +kernel
theorem d_MO_carry_5 : decode c_MO_carry 5 = .ok (.iaload, 1) := by decide +kernel
theorem d_MO_carry_6 : decode c_MO_carry 6 = .ok (.istore 5, 2) := by decide +kernel
theorem d_MO_carry_8 : decode c_MO_carry 8 = .ok (.aload_n 0, 1) := by decide +kernel
theorem d_MO_carry_9 : decode c_MO_carry 9 = .ok (.getfield 22, 3) := by decide +kernel
theorem d_MO_carry_12 : decode c_MO_carry 12 = .ok (.iload_n 1, 1) := by decide +kernel
theorem d_MO_carry_13 : decode c_MO_carry 13 = .ok (.iaload, 1) := by decide +kernel
theorem d_MO_carry_14 : decode c_MO_carry 14 = .ok (.istore 6, 2) := by decide +kernel
theorem d_MO_carry_16 : decode c_MO_carry 16 = .ok (.aload_n 0, 1) := by decide +kernel
theorem d_MO_carry_17 : decode c_MO_carry 17 = .ok (.iload 5, 2) := by decide +kernel
theorem d_MO_carry_19 : decode c_MO_carry 19 = .ok (.iload 5, 2) := by decide +kernel
theorem d_MO_carry_21 : decode c_MO_carry 21 = .ok (.iload 6, 2) := by decide +kernel
theorem d_MO_carry_23 : decode c_MO_carry 23 = .ok (.iadd, 1) := by decide +kernel
theorem d_MO_carry_24 : decode c_MO_carry 24 = .ok (.invokevirtual 231, 3) := by decide +kernel
theorem d_MO_carry_27 : decode c_MO_carry 27 = .ok (.istore 7, 2) := by decide +kernel
theorem d_MO_carry_29 : decode c_MO_carry 29 = .ok (.iload 7, 2) := by decide +kernel
theorem d_MO_carry_31 : decode c_MO_carry 31 = .ok (.ifCond .ge 5, 3) := by decide +kernel
theorem d_MO_carry_34 : decode c_MO_carry 34 = .ok (.iconst 0, 1) := by decide +kernel
theorem d_MO_carry_35 : decode c_MO_carry 35 = .ok (.ireturn, 1) := by decide +kernel
theorem d_MO_carry_36 : decode c_MO_carry 36 = .ok (.iload_n 3, 1) := by decide +kernel
theorem d_MO_carry_37 : decode c_MO_carry 37 = .ok (.iload_n 2, 1) := by decide +kernel
theorem d_MO_carry_38 : decode c_MO_carry 38 = .ok (.isub, 1) := by decide +kernel
theorem d_MO_carry_39 : decode c_MO_carry 39 = .ok (.iload 6, 2) := by decide +kernel
theorem d_MO_carry_41 : decode c_MO_carry 41 = .ok (.if_icmp .lt 7, 3) := by decide +kernel
theorem d_MO_carry_44 : decode c_MO_carry 44 = .ok (.iconst 1, 1) := by decide +kernel
theorem d_MO_carry_45 : decode c_MO_carry 45 = .ok (.goto 4, 3) := by decide +kernel
theorem d_MO_carry_48 : decode c_MO_carry 48 = .ok (.iconst 0, 1) := by decide +kernel
theorem d_MO_carry_49 : decode c_MO_carry 49 = .ok (.istore 8, 2) := by decide +kernel
theorem d_MO_carry_51 : decode c_MO_carry 51 = .ok (.iconst 0, 1) := by decide +kernel
theorem d_MO_carry_52 : decode c_MO_carry 52 = .ok (.istore 9, 2) := by decide +kernel
theorem d_MO_carry_54 : decode c_MO_carry 54 = .ok (.iload 9, 2) := by decide +kernel
theorem d_MO_carry_56 : decode c_MO_carry 56 = .ok (.iload 6, 2) := by decide +kernel
theorem d_MO_carry_58 : decode c_MO_carry 58 = .ok (.if_icmp .ge 43, 3) := by decide +kernel
theorem d_MO_carry_61 : decode c_MO_carry 61 = .ok (.iload 8, 2) := by decide +kernel
theorem d_MO_carry_63 : decode c_MO_carry 63 = .ok (.ifCond .eq 38, 3) := by decide +kernel
theorem d_MO_carry_66 : decode c_MO_carry 66 = .ok (.aload_n 0, 1) := by decide +kernel
theorem d_MO_carry_67 : decode c_MO_carry 67 = .ok (.getfield 35, 3) := by decide +kernel
theorem d_MO_carry_70 : decode c_MO_carry 70 = .ok (.iload 5, 2) := by decide +kernel
theorem d_MO_carry_72 : decode c_MO_carry 72 = .ok (.iload 9, 2) := by decide +kernel
theorem d_MO_carry_74 : decode c_MO_carry 74 = .ok (.iadd, 1) := by decide +kernel
theorem d_MO_carry_75 : decode c_MO_carry 75 = .ok (.caload, 1) := by decide +kernel
theorem d_MO_carry_76 : decode c_MO_carry 76 = .ok (.aload_n 0, 1) := by decide +kernel
theorem d_MO_carry_77 : decode c_MO_carry 77 = .ok (.getfield 35, 3) := by decide +kernel
theorem d_MO_carry_80 : decode c_MO_carry 80 = .ok (.iload_n 2, 1) := by decide +kernel
theorem d_MO_carry_81 : decode c_MO_carry 81 = .ok (.iload 9, 2) := by decide +kernel
theorem d_MO_carry_83 : decode c_MO_carry 83 = .ok (.iadd, 1) := by decide +kernel
theorem d_MO_carry_84 : decode c_MO_carry 84 = .ok (.caload, 1) := by decide +kernel
theorem d_MO_carry_85 : decode c_MO_carry 85 = .ok (.if_icmp .ne 7, 3) := by decide +kernel
theorem d_MO_carry_88 : decode c_MO_carry 88 = .ok (.iconst 1, 1) := by decide +kernel
theorem d_MO_carry_89 : decode c_MO_carry 89 = .ok (.goto 4, 3) := by decide +kernel
theorem d_MO_carry_92 : decode c_MO_carry 92 = .ok (.iconst 0, 1) := by decide +kernel
theorem d_MO_carry_93 : decode c_MO_carry 93 = .ok (.istore 8, 2) := by decide +kernel
theorem d_MO_carry_95 : decode c_MO_carry 95 = .ok (.iinc 9 1, 3) := by decide +kernel
theorem d_MO_carry_98 : decode c_MO_carry 98 = .ok (.goto (-44), 3) := by decide +kernel
theorem d_MO_carry_101 : decode c_MO_carry 101 = .ok (.iload 4, 2) := by decide +kernel
theorem d_MO_carry_103 : decode c_MO_carry 103 = .ok (.ifCond .eq 18, 3) := by decide +kernel
theorem d_MO_carry_106 : decode c_MO_carry 106 = .ok (.iload 8, 2) := by decide +kernel
theorem d_MO_carry_108 : decode c_MO_carry 108 = .ok (.ifCond .eq 13, 3) := by decide +kernel
theorem d_MO_carry_111 : decode c_MO_carry 111 = .ok (.iload_n 3, 1) := by decide +kernel
theorem d_MO_carry_112 : decode c_MO_carry 112 = .ok (.iload_n 2, 1) := by decide +kernel
theorem d_MO_carry_113 : decode c_MO_carry 113 = .ok (.isub, 1) := by decide +kernel
theorem d_MO_carry_114 : decode c_MO_carry 114 = .ok (.iload 6, 2) := by decide +kernel
theorem d_MO_carry_116 : decode c_MO_carry 116 = .ok (.if_icmp .ne 5, 3) := by decide +kernel
theorem d_MO_carry_119 : decode c_MO_carry 119 = .ok (.iconst 1, 1) := by decide +kernel
theorem d_MO_carry_120 : decode c_MO_carry 120 = .ok (.ireturn, 1) := by decide +kernel
theorem d_MO_carry_121 : decode c_MO_carry 121 = .ok (.iload 8, 2) := by decide +kernel
theorem d_MO_carry_123 : decode c_MO_carry 123 = .ok (.ifCond .eq 29, 3) := by decide +kernel
theorem d_MO_carry_126 : decode c_MO_carry 126 = .ok (.iload_n 3, 1) := by decide +kernel
theorem d_MO_carry_127 : decode c_MO_carry 127 = .ok (.iload_n 2, 1) := by decide +kernel
theorem d_MO_carry_128 : decode c_MO_carry 128 = .ok (.isub, 1) := by decide +kernel
theorem d_MO_carry_129 : decode c_MO_carry 129 = .ok (.iload 6, 2) := by decide +kernel
theorem d_MO_carry_131 : decode c_MO_carry 131 = .ok (.if_icmp .eq 17, 3) := by decide +kernel
theorem d_MO_carry_134 : decode c_MO_carry 134 = .ok (.aload_n 0, 1) := by decide +kernel
theorem d_MO_carry_135 : decode c_MO_carry 135 = .ok (.getfield 35, 3) := by decide +kernel
theorem d_MO_carry_138 : decode c_MO_carry 138 = .ok (.iload_n 2, 1) := by decide +kernel
theorem d_MO_carry_139 : decode c_MO_carry 139 = .ok (.iload 6, 2) := by decide +kernel
theorem d_MO_carry_141 : decode c_MO_carry 141 = .ok (.iadd, 1) := by decide +kernel
theorem d_MO_carry_142 : decode c_MO_carry 142 = .ok (.caload, 1) := by decide +kernel
theorem d_MO_carry_143 : decode c_MO_carry 143 = .ok (.bipush 47, 2) := by decide +kernel
theorem d_MO_carry_145 : decode c_MO_carry 145 = .ok (.if_icmp .ne 7, 3) := by decide +kernel
theorem d_MO_carry_148 : decode c_MO_carry 148 = .ok (.iconst 1, 1) := by decide +kernel
theorem d_MO_carry_149 : decode c_MO_carry 149 = .ok (.goto 4, 3) := by decide +kernel
theorem d_MO_carry_152 : decode c_MO_carry 152 = .ok (.iconst 0, 1) := by decide +kernel
theorem d_MO_carry_153 : decode c_MO_carry 153 = .ok (.istore 8, 2) := by decide +kernel
theorem d_MO_carry_155 : decode c_MO_carry 155 = .ok (.iload 4, 2) := by decide +kernel
theorem d_MO_carry_157 : decode c_MO_carry 157 = .ok (.ifCond .eq 18, 3) := by decide +kernel
theorem d_MO_carry_160 : decode c_MO_carry 160 = .ok (.iload 8, 2) := by decide +kernel
theorem d_MO_carry_162 : decode c_MO_carry 162 = .ok (.ifCond .ne 11, 3) := by decide +kernel
theorem d_MO_carry_165 : decode c_MO_carry 165 = .ok (.iload 7, 2) := by decide +kernel
theorem d_MO_carry_167 : decode c_MO_carry 167 = .ok (.sipush 224, 3) := by decide +kernel
theorem d_MO_carry_170 : decode c_MO_carry 170 = .ok (.if_icmp .ne 5, 3) := by decide +kernel
theorem d_MO_carry_173 : decode c_MO_carry 173 = .ok (.iconst 0, 1) := by decide +kernel
theorem d_MO_carry_174 : decode c_MO_carry 174 = .ok (.ireturn, 1) := by decide +kernel
theorem d_MO_carry_175 : decode c_MO_carry 175 = .ok (.aload_n 0, 1) := by decide +kernel
theorem d_MO_carry_176 : decode c_MO_carry 176 = .ok (.bipush 7, 2) := by decide +kernel
theorem d_MO_carry_178 : decode c_MO_carry 178 = .ok (.iload 7, 2) := by decide +kernel
theorem d_MO_carry_180 : decode c_MO_carry 180 = .ok (.invokevirtual 221, 3) := by decide +kernel
theorem d_MO_carry_183 : decode c_MO_carry 183 = .ok (.iload 4, 2) := by decide +kernel
theorem d_MO_carry_185 : decode c_MO_carry 185 = .ok (.ifCond .eq 9, 3) := by decide +kernel
theorem d_MO_carry_188 : decode c_MO_carry 188 = .ok (.aload_n 0, 1) := by decide +kernel
theorem d_MO_carry_189 : decode c_MO_carry 189 = .ok (.iload 7, 2) := by decide +kernel
theorem d_MO_carry_191 : decode c_MO_carry 191 = .ok (.invokevirtual 237, 3) := by decide +kernel
theorem d_MO_carry_194 : decode c_MO_carry 194 = .ok (.aload_n 0, 1) := by decide +kernel
theorem d_MO_carry_195 : decode c_MO_carry 195 = .ok (.iload_n 2, 1) := by decide +kernel
theorem d_MO_carry_196 : decode c_MO_carry 196 = .ok (.iload_n 3, 1) := by decide +kernel
theorem d_MO_carry_197 : decode c_MO_carry 197 = .ok (.invokevirtual 224, 3) := by decide +kernel
theorem d_MO_carry_200 : decode c_MO_carry 200 = .ok (.ireturn, 1) := by decide +kernel
def ws_MO_carry : List Cond := .code y_MO_carry c_MO_carry 10 (some .boolean) :: TBL
