theorem d_PT_of_0 : decode c_PT_of 0 = .ok (.aload_n 0, 1) := by decide +kernel
theorem d_PT_of_1 : decode c_PT_of 1 = .ok (.ifnull 11, 3) := by decide +kernel
theorem d_PT_of_4 : decode c_PT_of 4 = .ok (.aload_n 0, 1) := by decide +kernel
theorem d_PT_of_5 : decode c_PT_of 5 = .ok (.getfield 27, 3) := by decide +kernel
theorem d_PT_of_8 : decode c_PT_of 8 = .ok (.iconst 2, 1) := by decide +kernel
theorem d_PT_of_9 : decode c_PT_of 9 = .ok (.if_icmp .eq 5, 3) := by decide +kernel
theorem d_PT_of_12 : decode c_PT_of 12 = .ok (.aconst_null, 1) := by decide +kernel
theorem d_PT_of_13 : decode c_PT_of 13 = .ok (.areturn, 1) := by decide +kernel
theorem d_PT_of_14 : decode c_PT_of 14 = .ok (.aload_n 0, 1) := by decide +kernel
theorem d_PT_of_15 : decode c_PT_of 15 = .ok (.getfield 32, 3) := by decide +kernel
theorem d_PT_of_18 : decode c_PT_of 18 = .ok (.astore_n 2, 1) := by decide +kernel
theorem d_PT_of_19 : decode c_PT_of 19 = .ok (.new 10, 3) := by decide +kernel
theorem d_PT_of_22 : decode c_PT_of 22 = .ok (.dup, 1) := by decide +kernel
theorem d_PT_of_23 : decode c_PT_of 23 = .ok (.ldc 35, 2) := by decide +kernel
theorem d_PT_of_25 : decode c_PT_of 25 = .ok (.aconst_null, 1) := by decide +kernel
theorem d_PT_of_26 : decode c_PT_of 26 = .ok (.invokespecial 37, 3) := by decide +kernel
theorem d_PT_of_29 : decode c_PT_of 29 = .ok (.astore_n 3, 1) := by decide +kernel
theorem d_PT_of_30 : decode c_PT_of 30 = .ok (.aload_n 2, 1) := by decide +kernel
theorem d_PT_of_31 : decode c_PT_of 31 = .ok (.invokevirtual 40, 3) := by decide +kernel
theorem d_PT_of_34 : decode c_PT_of 34 = .ok (.istore 4, 2) := by decide +kernel
theorem d_PT_of_36 : decode c_PT_of 36 = .ok (.iload 4, 2) := by decide +kernel
theorem d_PT_of_38 : decode c_PT_of 38 = .ok (.iconst 1, 1) := by decide +kernel
theorem d_PT_of_39 : decode c_PT_of 39 = .ok (.isub, 1) := by decide +kernel
theorem d_PT_of_40 : decode c_PT_of 40 = .ok (.istore 5, 2) := by decide +kernel
theorem d_PT_of_42 : decode c_PT_of 42 = .ok (.iload 5, 2) := by decide +kernel
theorem d_PT_of_44 : decode c_PT_of 44 = .ok (.ifCond .lt 58, 3) := by decide +kernel
theorem d_PT_of_47 : decode c_PT_of 47 = .ok (.aload_n 2, 1) := by decide +kernel
theorem d_PT_of_48 : decode c_PT_of 48 = .ok (.iload 5, 2) := by decide +kernel
theorem d_PT_of_50 : decode c_PT_of 50 = .ok (.invokevirtual 46, 3) := by decide +kernel
theorem d_PT_of_53 : decode c_PT_of 53 = .ok (.bipush 47, 2) := by decide +kernel
theorem d_PT_of_55 : decode c_PT_of 55 = .ok (.if_icmp .ne 41, 3) := by decide +kernel
theorem d_PT_of_58 : decode c_PT_of 58 = .ok (.aload_n 2, 1) := by decide +kernel
theorem d_PT_of_59 : decode c_PT_of 59 = .ok (.iload 5, 2) := by decide +kernel
theorem d_PT_of_61 : decode c_PT_of 61 = .ok (.iconst 1, 1) := by decide +kernel
theorem d_PT_of_62 : decode c_PT_of 62 = .ok (.iadd, 1) := by decide +kernel
theorem d_PT_of_63 : decode c_PT_of 63 = .ok (.iload 4, 2) := by decide +kernel
theorem d_PT_of_65 : decode c_PT_of 65 = .ok (.invokevirtual 50, 3) := by decide +kernel
theorem d_PT_of_68 : decode c_PT_of 68 = .ok (.aload_n 1, 1) := by decide +kernel
theorem d_PT_of_69 : decode c_PT_of 69 = .ok (.invokestatic 54, 3) := by decide +kernel
theorem d_PT_of_72 : decode c_PT_of 72 = .ok (.astore 6, 2) := by decide +kernel
theorem d_PT_of_74 : decode c_PT_of 74 = .ok (.aload 6, 2) := by decide +kernel
theorem d_PT_of_76 : decode c_PT_of 76 = .ok (.ifnonnull 5, 3) := by decide +kernel
theorem d_PT_of_79 : decode c_PT_of 79 = .ok (.aconst_null, 1) := by decide +kernel
theorem d_PT_of_80 : decode c_PT_of 80 = .ok (.areturn, 1) := by decide +kernel
theorem d_PT_of_81 : decode c_PT_of 81 = .ok (.new 10, 3) := by decide +kernel
theorem d_PT_of_84 : decode c_PT_of 84 = .ok (.dup, 1) := by decide +kernel
theorem d_PT_of_85 : decode c_PT_of 85 = .ok (.aload 6, 2) := by decide +kernel
theorem d_PT_of_87 : decode c_PT_of 87 = .ok (.aload_n 3, 1) := by decide +kernel
theorem d_PT_of_88 : decode c_PT_of 88 = .ok (.invokespecial 37, 3) := by decide +kernel
theorem d_PT_of_91 : decode c_PT_of 91 = .ok (.astore_n 3, 1) := by decide +kernel
theorem d_PT_of_92 : decode c_PT_of 92 = .ok (.iload 5, 2) := by decide +kernel
theorem d_PT_of_94 : decode c_PT_of 94 = .ok (.istore 4, 2) := by decide +kernel
theorem d_PT_of_96 : decode c_PT_of 96 = .ok (.iinc 5 (-1), 3) := by decide +kernel
theorem d_PT_of_99 : decode c_PT_of 99 = .ok (.goto (-57), 3) := by decide +kernel
theorem d_PT_of_102 : decode c_PT_of 102 = .ok (.iload 4, 2) := by decide +kernel
theorem d_PT_of_104 : decode c_PT_of 104 = .ok (.ifCond .ne 7, 3) := by decide +kernel
theorem d_PT_of_107 : decode c_PT_of 107 = .ok (.aload_n 3, 1) := by decide +kernel
theorem d_PT_of_108 : decode c_PT_of 108 = .ok (.goto 4, 3) := by decide +kernel
theorem d_PT_of_111 : decode c_PT_of 111 = .ok (.aconst_null, 1) := by decide +kernel
theorem d_PT_of_112 : decode c_PT_of 112 = .ok (.areturn, 1) := by decide +kernel
def ws_PT_of : List Cond := .code y_PT_of c_PT_of 7 (some (.object "PatchStore$Pointer")) :: TBL
theorem d_PT_init_0 : decode c_PT_init 0 = .ok (.aload_n 0, 1) := by decide +kernel
theorem d_PT_init_1 : decode c_PT_init 1 = .ok (.invokespecial 3, 3) := by decide +kernel
theorem d_PT_init_4 : decode c_PT_init 4 = .ok (.aload_n 0, 1) := by decide +kernel
theorem d_PT_init_5 : decode c_PT_init 5 = .ok (.aload_n 1, 1) := by decide +kernel
theorem d_PT_init_6 : decode c_PT_init 6 = .ok (.putfield 9, 3) := by decide +kernel
theorem d_PT_init_9 : decode c_PT_init 9 = .ok (.aload_n 0, 1) := by decide +kernel
theorem d_PT_init_10 : decode c_PT_init 10 = .ok (.aload_n 1, 1) := by decide +kernel
theorem d_PT_init_11 : decode c_PT_init 11 = .ok (.invokestatic 15, 3) := by decide +kernel
theorem d_PT_init_14 : decode c_PT_init 14 = .ok (.putfield 19, 3) := by decide +kernel
theorem d_PT_init_17 : decode c_PT_init 17 = .ok (.aload_n 0, 1) := by decide +kernel
theorem d_PT_init_18 : decode c_PT_init 18 = .ok (.aload_n 2, 1) := by decide +kernel
theorem d_PT_init_19 : decode c_PT_init 19 = .ok (.putfield 23, 3) := by decide +kernel
theorem d_PT_init_22 : decode c_PT_init 22 = .ok (.return_, 1) := by decide +kernel
def ws_PT_init : List Cond := .code y_PT_init c_PT_init 3 none :: TBL
theorem d_PT_numberIn_0 : decode c_PT_numberIn 0 = .ok (.aload_n 0, 1) := by decide +kernel
theorem d_PT_numberIn_1 : decode c_PT_numberIn 1 = .ok (.invokevirtual 40, 3) := by decide +kernel
theorem d_PT_numberIn_4 : decode c_PT_numberIn 4 = .ok (.istore_n 1, 1) := by decide +kernel
theorem d_PT_numberIn_5 : decode c_PT_numberIn 5 = .ok (.iload_n 1, 1) := by decide +kernel
theorem d_PT_numberIn_6 : decode c_PT_numberIn 6 = .ok (.ifCond .eq 23, 3) := by decide +kernel
theorem d_PT_numberIn_9 : decode c_PT_numberIn 9 = .ok (.iload_n 1, 1) := by decide +kernel
theorem d_PT_numberIn_10 : decode c_PT_numberIn 10 = .ok (.iconst 3, 1) := by decide +kernel
theorem d_PT_numberIn_11 : decode c_PT_numberIn 11 = .ok (.if_icmp .gt 18, 3) := by decide +kernel
theorem d_PT_numberIn_14 : decode c_PT_numberIn 14 = .ok (.iload_n 1, 1) := by decide +kernel
theorem d_PT_numberIn_15 : decode c_PT_numberIn 15 = .ok (.iconst 1, 1) := by decide +kernel
theorem d_PT_numberIn_16 : decode c_PT_numberIn 16 = .ok (.if_icmp .le 15, 3) := by decide +kernel
theorem d_PT_numberIn_19 : decode c_PT_numberIn 19 = .ok (.aload_n 0, 1) := by decide +kernel
theorem d_PT_numberIn_20 : decode c_PT_numberIn 20 = .ok (.iconst 0, 1) := by decide +kernel
theorem d_PT_numberIn_21 : decode c_PT_numberIn 21 = .ok (.invokevirtual 46, 3) := by decide +kernel
theorem d_PT_numberIn_24 : decode c_PT_numberIn 24 = .ok (.bipush 48, 2) := by decide +kernel
theorem d_PT_numberIn_26 : decode c_PT_numberIn 26 = .ok (.if_icmp .ne 5, 3) := by decide +kernel
theorem d_PT_numberIn_29 : decode c_PT_numberIn 29 = .ok (.iconst (-1), 1) := by decide +kernel
theorem d_PT_numberIn_30 : decode c_PT_numberIn 30 = .ok (.ireturn, 1) := by decide +kernel
theorem d_PT_numberIn_31 : decode c_PT_numberIn 31 = .ok (.iconst 0, 1) := by decide +kernel
theorem d_PT_numberIn_32 : decode c_PT_numberIn 32 = .ok (.istore_n 2, 1) := by decide +kernel
theorem d_PT_numberIn_33 : decode c_PT_numberIn 33 = .ok (.iconst 0, 1) := by decide +kernel
theorem d_PT_numberIn_34 : decode c_PT_numberIn 34 = .ok (.istore_n 3, 1) := by decide +kernel
theorem d_PT_numberIn_35 : decode c_PT_numberIn 35 = .ok (.iload_n 3, 1) := by decide +kernel
theorem d_PT_numberIn_36 : decode c_PT_numberIn 36 = .ok (.iload_n 1, 1) := by decide +kernel
theorem d_PT_numberIn_37 : decode c_PT_numberIn 37 = .ok (.if_icmp .ge 36, 3) := by decide +kernel
theorem d_PT_numberIn_40 : decode c_PT_numberIn 40 = .ok (.aload_n 0, 1) := by decide +kernel
theorem d_PT_numberIn_41 : decode c_PT_numberIn 41 = .ok (.iload_n 3, 1) := by decide +kernel
theorem d_PT_numberIn_42 : decode c_PT_numberIn 42 = .ok (.invokevirtual 46, 3) := by decide +kernel
theorem d_PT_numberIn_45 : decode c_PT_numberIn 45 = .ok (.invokestatic 78, 3) := by decide +kernel
theorem d_PT_numberIn_48 : decode c_PT_numberIn 48 = .ok (.ifCond .ne 5, 3) := by decide +kernel
theorem d_PT_numberIn_51 : decode c_PT_numberIn 51 = .ok (.iconst (-1), 1) := by decide +kernel
theorem d_PT_numberIn_52 : decode c_PT_numberIn 52 = .ok (.ireturn, 1) := by decide +kernel
theorem d_PT_numberIn_53 : decode c_PT_numberIn 53 = .ok (.iload_n 2, 1) := by decide +kernel
theorem d_PT_numberIn_54 : decode c_PT_numberIn 54 = .ok (.bipush 10, 2) := by decide +kernel
theorem d_PT_numberIn_56 : decode c_PT_numberIn 56 = .ok (.imul, 1) := by decide +kernel
theorem d_PT_numberIn_57 : decode c_PT_numberIn 57 = .ok (.aload_n 0, 1) := by decide +kernel
theorem d_PT_numberIn_58 : decode c_PT_numberIn 58 = .ok (.iload_n 3, 1) := by decide +kernel
theorem d_PT_numberIn_59 : decode c_PT_numberIn 59 = .ok (.invokevirtual 46, 3) := by decide +kernel
theorem d_PT_numberIn_62 : decode c_PT_numberIn 62 = .ok (.iadd, 1) := by decide +kernel
theorem d_PT_numberIn_63 : decode c_PT_numberIn 63 = .ok (.bipush 48, 2) := by decide +kernel
theorem d_PT_numberIn_65 : decode c_PT_numberIn 65 = .ok (.isub, 1) := by decide +kernel
theorem d_PT_numberIn_66 : decode c_PT_numberIn 66 = .ok (.istore_n 2, 1) := by decide +kernel
theorem d_PT_numberIn_67 : decode c_PT_numberIn 67 = .ok (.iinc 3 1, 3) := by decide +kernel
theorem d_PT_numberIn_70 : decode c_PT_numberIn 70 = .ok (.goto (-35), 3) := by decide +kernel
theorem d_PT_numberIn_73 : decode c_PT_numberIn 73 = .ok (.iload_n 2, 1) := by decide +kernel
theorem d_PT_numberIn_74 : decode c_PT_numberIn 74 = .ok (.ireturn, 1) := by decide +kernel
def ws_PT_numberIn : List Cond := .code y_PT_numberIn c_PT_numberIn 4 (some .int) :: TBL
theorem d_ST_substring_0 : decode c_ST_substring 0 = .ok (.aload_n 0, 1) := by decide +kernel
theorem d_ST_substring_1 : decode c_ST_substring 1 = .ok (.invokevirtual 505, 3) := by decide +kernel
theorem d_ST_substring_4 : decode c_ST_substring 4 = .ok (.istore_n 3, 1) := by decide +kernel
theorem d_ST_substring_5 : decode c_ST_substring 5 = .ok (.iload_n 1, 1) := by decide +kernel
theorem d_ST_substring_6 : decode c_ST_substring 6 = .ok (.iload_n 2, 1) := by decide +kernel
theorem d_ST_substring_7 : decode c_ST_substring 7 = .ok (.iload_n 3, 1) := by decide +kernel
theorem d_ST_substring_8 : decode c_ST_substring 8 = .ok (.invokestatic 521, 3) := by decide +kernel
theorem d_ST_substring_11 : decode c_ST_substring 11 = .ok (.iload_n 1, 1) := by decide +kernel
theorem d_ST_substring_12 : decode c_ST_substring 12 = .ok (.ifCond .ne 10, 3) := by decide +kernel
theorem d_ST_substring_15 : decode c_ST_substring 15 = .ok (.iload_n 2, 1) := by decide +kernel
theorem d_ST_substring_16 : decode c_ST_substring 16 = .ok (.iload_n 3, 1) := by decide +kernel
theorem d_ST_substring_17 : decode c_ST_substring 17 = .ok (.if_icmp .ne 5, 3) := by decide +kernel
theorem d_ST_substring_20 : decode c_ST_substring 20 = .ok (.aload_n 0, 1) := by decide +kernel
theorem d_ST_substring_21 : decode c_ST_substring 21 = .ok (.areturn, 1) := by decide +kernel
theorem d_ST_substring_22 : decode c_ST_substring 22 = .ok (.iload_n 2, 1) := by decide +kernel
theorem d_ST_substring_23 : decode c_ST_substring 23 = .ok (.iload_n 1, 1) := by decide +kernel
theorem d_ST_substring_24 : decode c_ST_substring 24 = .ok (.isub, 1) := by decide +kernel
theorem d_ST_substring_25 : decode c_ST_substring 25 = .ok (.istore 4, 2) := by decide +kernel
theorem d_ST_substring_27 : decode c_ST_substring 27 = .ok (.aload_n 0, 1) := by decide +kernel
theorem d_ST_substring_28 : decode c_ST_substring 28 = .ok (.invokevirtual 492, 3) := by decide +kernel
theorem d_ST_substring_31 : decode c_ST_substring 31 = .ok (.ifCond .eq 16, 3) := by decide +kernel
theorem d_ST_substring_34 : decode c_ST_substring 34 = .ok (.aload_n 0, 1) := by decide +kernel
theorem d_ST_substring_35 : decode c_ST_substring 35 = .ok (.getfield 9, 3) := by decide +kernel
theorem d_ST_substring_38 : decode c_ST_substring 38 = .ok (.iload_n 1, 1) := by decide +kernel
theorem d_ST_substring_39 : decode c_ST_substring 39 = .ok (.iload 4, 2) := by decide +kernel
theorem d_ST_substring_41 : decode c_ST_substring 41 = .ok (.invokestatic 685, 3) := by decide +kernel
theorem d_ST_substring_44 : decode c_ST_substring 44 = .ok (.goto 13, 3) := by decide +kernel
theorem d_ST_substring_47 : decode c_ST_substring 47 = .ok (.aload_n 0, 1) := by decide +kernel
theorem d_ST_substring_48 : decode c_ST_substring 48 = .ok (.getfield 9, 3) := by decide +kernel
theorem d_ST_substring_51 : decode c_ST_substring 51 = .ok (.iload_n 1, 1) := by decide +kernel
theorem d_ST_substring_52 : decode c_ST_substring 52 = .ok (.iload 4, 2) := by decide +kernel
theorem d_ST_substring_54 : decode c_ST_substring 54 = .ok (.invokestatic 689, 3) := by decide +kernel
theorem d_ST_substring_57 : decode c_ST_substring 57 = .ok (.areturn, 1) := by decide +kernel
def ws_ST_substring : List Cond := .code y_ST_substring c_ST_substring 5 (some (.object "java/lang/String")) :: TBL
theorem d_ST_checkBoundsBeginEnd_0 : decode c_ST_checkBoundsBeginEnd 0 = .ok (.iload_n 0, 1) := by decide +kernel
theorem d_ST_checkBoundsBeginEnd_1 : decode c_ST_checkBoundsBeginEnd 1 = .ok (.iload_n 1, 1) := by decide +kernel
theorem d_ST_checkBoundsBeginEnd_2 : decode c_ST_checkBoundsBeginEnd 2 = .ok (.iload_n 2, 1) := by decide +kernel
theorem d_ST_checkBoundsBeginEnd_3 : decode c_ST_checkBoundsBeginEnd 3 = .ok (.getstatic 1053, 3) := by decide +kernel
theorem d_ST_checkBoundsBeginEnd_6 : decode c_ST_checkBoundsBeginEnd 6 = .ok (.invokestatic 1062, 3) := by decide +kernel
theorem d_ST_checkBoundsBeginEnd_9 : decode c_ST_checkBoundsBeginEnd 9 = .ok (.pop, 1) := by decide +kernel
theorem d_ST_checkBoundsBeginEnd_10 : decode c_ST_checkBoundsBeginEnd 10 = .ok (.return_, 1) := by decide +kernel
def ws_ST_checkBoundsBeginEnd : List Cond := .code y_ST_checkBoundsBeginEnd c_ST_checkBoundsBeginEnd 3 none :: TBL
theorem d_PC_checkFromToIndex_0 : decode c_PC_checkFromToIndex 0 = .ok (.iload_n 0, 1) := by decide +kernel
theorem d_PC_checkFromToIndex_1 : decode c_PC_checkFromToIndex 1 = .ok (.ifCond .lt 13, 3) := by decide +kernel
theorem d_PC_checkFromToIndex_4 : decode c_PC_checkFromToIndex 4 = .ok (.iload_n 0, 1) := by decide +kernel
theorem d_PC_checkFromToIndex_5 : decode c_PC_checkFromToIndex 5 = .ok (.iload_n 1, 1) := by decide +kernel
theorem d_PC_checkFromToIndex_6 : decode c_PC_checkFromToIndex 6 = .ok (.if_icmp .gt 8, 3) := by decide +kernel
theorem d_PC_checkFromToIndex_9 : decode c_PC_checkFromToIndex 9 = .ok (.iload_n 1, 1) := by decide +kernel
theorem d_PC_checkFromToIndex_10 : decode c_PC_checkFromToIndex 10 = .ok (.iload_n 2, 1) := by decide +kernel
theorem d_PC_checkFromToIndex_11 : decode c_PC_checkFromToIndex 11 = .ok (.if_icmp .le 11, 3) := by decide +kernel
theorem d_PC_checkFromToIndex_14 : decode c_PC_checkFromToIndex 14 = .ok (.aload_n 3, 1) := by decide +kernel
theorem d_PC_checkFromToIndex_15 : decode c_PC_checkFromToIndex 15 = .ok (.iload_n 0, 1) := by decide +kernel
theorem d_PC_checkFromToIndex_16 : decode c_PC_checkFromToIndex 16 = .ok (.iload_n 1, 1) := by decide +kernel
theorem d_PC_checkFromToIndex_17 : decode c_PC_checkFromToIndex 17 = .ok (.iload_n 2, 1) := by decide +kernel
theorem d_PC_checkFromToIndex_18 : decode c_PC_checkFromToIndex 18 = .ok (.invokestatic 99, 3) := by decide +kernel
theorem d_PC_checkFromToIndex_21 : decode c_PC_checkFromToIndex 21 = .ok (.athrow, 1) := by decide +kernel
theorem d_PC_checkFromToIndex_22 : decode c_PC_checkFromToIndex 22 = .ok (.iload_n 0, 1) := by decide +kernel
theorem d_PC_checkFromToIndex_23 : decode c_PC_checkFromToIndex 23 = .ok (.ireturn, 1) := by decide +kernel
def ws_PC_checkFromToIndex : List Cond := .code y_PC_checkFromToIndex c_PC_checkFromToIndex 4 (some .int) :: TBL
theorem d_LT_newString_0 : decode c_LT_newString 0 = .ok (.iload_n 2, 1) := by decide +kernel
theorem d_LT_newString_1 : decode c_LT_newString 1 = .ok (.ifCond .ne 6, 3) := by decide +kernel
theorem d_LT_newString_4 : decode c_LT_newString 4 = .ok (.ldc 151, 2) := by decide +kernel
theorem d_LT_newString_6 : decode c_LT_newString 6 = .ok (.areturn, 1) := by decide +kernel
theorem d_LT_newString_7 : decode c_LT_newString 7 = .ok (.new 1, 3) := by decide +kernel
theorem d_LT_newString_10 : decode c_LT_newString 10 = .ok (.dup, 1) := by decide +kernel
theorem d_LT_newString_11 : decode c_LT_newString 11 = .ok (.aload_n 0, 1) := by decide +kernel
theorem d_LT_newString_12 : decode c_LT_newString 12 = .ok (.iload_n 1, 1) := by decide +kernel
theorem d_LT_newString_13 : decode c_LT_newString 13 = .ok (.iload_n 1, 1) := by decide +kernel
theorem d_LT_newString_14 : decode c_LT_newString 14 = .ok (.iload_n 2, 1) := by decide +kernel
theorem d_LT_newString_15 : decode c_LT_newString 15 = .ok (.iadd, 1) := by decide +kernel
theorem d_LT_newString_16 : decode c_LT_newString 16 = .ok (.invokestatic 232, 3) := by decide +kernel
theorem d_LT_newString_19 : decode c_LT_newString 19 = .ok (.iconst 0, 1) := by decide +kernel
theorem d_LT_newString_20 : decode c_LT_newString 20 = .ok (.invokespecial 112, 3) := by decide +kernel
theorem d_LT_newString_23 : decode c_LT_newString 23 = .ok (.areturn, 1) := by decide +kernel
def ws_LT_newString : List Cond := .code y_LT_newString c_LT_newString 3 (some (.object "java/lang/String")) :: TBL
theorem d_ST_init3_0 : decode c_ST_init3 0 = .ok (.aload_n 0, 1) := by decide +kernel
theorem d_ST_init3_1 : decode c_ST_init3 1 = .ok (.invokespecial 1, 3) := by decide +kernel
theorem d_ST_init3_4 : decode c_ST_init3 4 = .ok (.aload_n 0, 1) := by decide +kernel
theorem d_ST_init3_5 : decode c_ST_init3 5 = .ok (.aload_n 1, 1) := by decide +kernel
theorem d_ST_init3_6 : decode c_ST_init3 6 = .ok (.putfield 9, 3) := by decide +kernel
theorem d_ST_init3_9 : decode c_ST_init3 9 = .ok (.aload_n 0, 1) := by decide +kernel
theorem d_ST_init3_10 : decode c_ST_init3 10 = .ok (.iload_n 2, 1) := by decide +kernel
theorem d_ST_init3_11 : decode c_ST_init3 11 = .ok (.putfield 15, 3) := by decide +kernel
theorem d_ST_init3_14 : decode c_ST_init3 14 = .ok (.return_, 1) := by decide +kernel
def ws_ST_init3 : List Cond := .code y_ST_init3 c_ST_init3 3 none :: TBL
theorem d_UT_newString_0 : decode c_UT_newString 0 = .ok (.iload_n 2, 1) := by decide +kernel
theorem d_UT_newString_1 : decode c_UT_newString 1 = .ok (.ifCond .ne 7, 3) := by decide +kernel
theorem d_UT_newString_4 : decode c_UT_newString 4 = .ok (.ldc_w 295, 3) := by decide +kernel
theorem d_UT_newString_7 : decode c_UT_newString 7 = .ok (.areturn, 1) := by decide +kernel
theorem d_UT_newString_8 : decode c_UT_newString 8 = .ok (.getstatic 251, 3) := by decide +kernel
theorem d_UT_newString_11 : decode c_UT_newString 11 = .ok (.ifCond .eq 28, 3) := by decide +kernel
theorem d_UT_newString_14 : decode c_UT_newString 14 = .ok (.aload_n 0, 1) := by decide +kernel
theorem d_UT_newString_15 : decode c_UT_newString 15 = .ok (.iload_n 1, 1) := by decide +kernel
theorem d_UT_newString_16 : decode c_UT_newString 16 = .ok (.iload_n 2, 1) := by decide +kernel
theorem d_UT_newString_17 : decode c_UT_newString 17 = .ok (.invokestatic 257, 3) := by decide +kernel
theorem d_UT_newString_20 : decode c_UT_newString 20 = .ok (.astore_n 3, 1) := by decide +kernel
theorem d_UT_newString_21 : decode c_UT_newString 21 = .ok (.aload_n 3, 1) := by decide +kernel
theorem d_UT_newString_22 : decode c_UT_newString 22 = .ok (.iload_n 2, 1) := by decide +kernel
theorem d_UT_newString_23 : decode c_UT_newString 23 = .ok (.invokestatic 259, 3) := by decide +kernel
theorem d_UT_newString_26 : decode c_UT_newString 26 = .ok (.istore 4, 2) := by decide +kernel
theorem d_UT_newString_28 : decode c_UT_newString 28 = .ok (.new 3, 3) := by decide +kernel
theorem d_UT_newString_31 : decode c_UT_newString 31 = .ok (.dup, 1) := by decide +kernel
theorem d_UT_newString_32 : decode c_UT_newString 32 = .ok (.aload_n 3, 1) := by decide +kernel
theorem d_UT_newString_33 : decode c_UT_newString 33 = .ok (.iload 4, 2) := by decide +kernel
theorem d_UT_newString_35 : decode c_UT_newString 35 = .ok (.invokespecial 263, 3) := by decide +kernel
theorem d_UT_newString_38 : decode c_UT_newString 38 = .ok (.areturn, 1) := by decide +kernel
theorem d_UT_newString_39 : decode c_UT_newString 39 = .ok (.iload_n 1, 1) := by decide +kernel
theorem d_UT_newString_40 : decode c_UT_newString 40 = .ok (.iload_n 2, 1) := by decide +kernel
theorem d_UT_newString_41 : decode c_UT_newString 41 = .ok (.iadd, 1) := by decide +kernel
theorem d_UT_newString_42 : decode c_UT_newString 42 = .ok (.istore_n 3, 1) := by decide +kernel
theorem d_UT_newString_43 : decode c_UT_newString 43 = .ok (.new 3, 3) := by decide +kernel
theorem d_UT_newString_46 : decode c_UT_newString 46 = .ok (.dup, 1) := by decide +kernel
theorem d_UT_newString_47 : decode c_UT_newString 47 = .ok (.aload_n 0, 1) := by decide +kernel
theorem d_UT_newString_48 : decode c_UT_newString 48 = .ok (.iload_n 1, 1) := by decide +kernel
theorem d_UT_newString_49 : decode c_UT_newString 49 = .ok (.iconst 1, 1) := by decide +kernel
theorem d_UT_newString_50 : decode c_UT_newString 50 = .ok (.ishl, 1) := by decide +kernel
theorem d_UT_newString_51 : decode c_UT_newString 51 = .ok (.iload_n 3, 1) := by decide +kernel
theorem d_UT_newString_52 : decode c_UT_newString 52 = .ok (.iconst 1, 1) := by decide +kernel
theorem d_UT_newString_53 : decode c_UT_newString 53 = .ok (.ishl, 1) := by decide +kernel
theorem d_UT_newString_54 : decode c_UT_newString 54 = .ok (.invokestatic 126, 3) := by decide +kernel
theorem d_UT_newString_57 : decode c_UT_newString 57 = .ok (.iconst 1, 1) := by decide +kernel
theorem d_UT_newString_58 : decode c_UT_newString 58 = .ok (.invokespecial 263, 3) := by decide +kernel
theorem d_UT_newString_61 : decode c_UT_newString 61 = .ok (.areturn, 1) := by decide +kernel
def ws_UT_newString : List Cond := .code y_UT_newString c_UT_newString 5 (some (.object "java/lang/String")) :: TBL
theorem d_PT_decoded_0 : decode c_PT_decoded 0 = .ok (.aload_n 0, 1) := by decide +kernel
theorem d_PT_decoded_1 : decode c_PT_decoded 1 = .ok (.bipush 126, 2) := by decide +kernel
theorem d_PT_decoded_3 : decode c_PT_decoded 3 = .ok (.invokevirtual 58, 3) := by decide +kernel
theorem d_PT_decoded_6 : decode c_PT_decoded 6 = .ok (.ifCond .ge 5, 3) := by decide +kernel
theorem d_PT_decoded_9 : decode c_PT_decoded 9 = .ok (.aload_n 0, 1) := by decide +kernel
theorem d_PT_decoded_10 : decode c_PT_decoded 10 = .ok (.areturn, 1) := by decide +kernel
theorem d_PT_decoded_11 : decode c_PT_decoded 11 = .ok (.aload_n 1, 1) := by decide +kernel
theorem d_PT_decoded_12 : decode c_PT_decoded 12 = .ok (.iconst 0, 1) := by decide +kernel
theorem d_PT_decoded_13 : decode c_PT_decoded 13 = .ok (.invokevirtual 62, 3) := by decide +kernel
theorem d_PT_decoded_16 : decode c_PT_decoded 16 = .ok (.iconst 0, 1) := by decide +kernel
theorem d_PT_decoded_17 : decode c_PT_decoded 17 = .ok (.istore_n 2, 1) := by decide +kernel
theorem d_PT_decoded_18 : decode c_PT_decoded 18 = .ok (.iload_n 2, 1) := by decide +kernel
theorem d_PT_decoded_19 : decode c_PT_decoded 19 = .ok (.aload_n 0, 1) := by decide +kernel
theorem d_PT_decoded_20 : decode c_PT_decoded 20 = .ok (.invokevirtual 40, 3) := by decide +kernel
theorem d_PT_decoded_23 : decode c_PT_decoded 23 = .ok (.if_icmp .ge 80, 3) := by decide +kernel
theorem d_PT_decoded_26 : decode c_PT_decoded 26 = .ok (.aload_n 0, 1) := by decide +kernel
theorem d_PT_decoded_27 : decode c_PT_decoded 27 = .ok (.iload_n 2, 1) := by decide +kernel
theorem d_PT_decoded_28 : decode c_PT_decoded 28 = .ok (.invokevirtual 46, 3) := by decide +kernel
theorem d_PT_decoded_31 : decode c_PT_decoded 31 = .ok (.istore_n 3, 1) := by decide +kernel
theorem d_PT_decoded_32 : decode c_PT_decoded 32 = .ok (.iload_n 3, 1) := by decide +kernel
theorem d_PT_decoded_33 : decode c_PT_decoded 33 = .ok (.bipush 126, 2) := by decide +kernel
theorem d_PT_decoded_35 : decode c_PT_decoded 35 = .ok (.if_icmp .ne 56, 3) := by decide +kernel
theorem d_PT_decoded_38 : decode c_PT_decoded 38 = .ok (.iinc 2 1, 3) := by decide +kernel
theorem d_PT_decoded_41 : decode c_PT_decoded 41 = .ok (.iload_n 2, 1) := by decide +kernel
theorem d_PT_decoded_42 : decode c_PT_decoded 42 = .ok (.aload_n 0, 1) := by decide +kernel
theorem d_PT_decoded_43 : decode c_PT_decoded 43 = .ok (.invokevirtual 40, 3) := by decide +kernel
theorem d_PT_decoded_46 : decode c_PT_decoded 46 = .ok (.if_icmp .ge 11, 3) := by decide +kernel
theorem d_PT_decoded_49 : decode c_PT_decoded 49 = .ok (.aload_n 0, 1) := by decide +kernel
theorem d_PT_decoded_50 : decode c_PT_decoded 50 = .ok (.iload_n 2, 1) := by decide +kernel
theorem d_PT_decoded_51 : decode c_PT_decoded 51 = .ok (.invokevirtual 46, 3) := by decide +kernel
theorem d_PT_decoded_54 : decode c_PT_decoded 54 = .ok (.goto 4, 3) := by decide +kernel
theorem d_PT_decoded_57 : decode c_PT_decoded 57 = .ok (.iconst 0, 1) := by decide +kernel
theorem d_PT_decoded_58 : decode c_PT_decoded 58 = .ok (.istore 4, 2) := by decide +kernel
theorem d_PT_decoded_60 : decode c_PT_decoded 60 = .ok (.iload 4, 2) := by decide +kernel
theorem d_PT_decoded_62 : decode c_PT_decoded 62 = .ok (.bipush 48, 2) := by decide +kernel
theorem d_PT_decoded_64 : decode c_PT_decoded 64 = .ok (.if_icmp .eq 12, 3) := by decide +kernel
theorem d_PT_decoded_67 : decode c_PT_decoded 67 = .ok (.iload 4, 2) := by decide +kernel
theorem d_PT_decoded_69 : decode c_PT_decoded 69 = .ok (.bipush 49, 2) := by decide +kernel
theorem d_PT_decoded_71 : decode c_PT_decoded 71 = .ok (.if_icmp .eq 5, 3) := by decide +kernel
theorem d_PT_decoded_74 : decode c_PT_decoded 74 = .ok (.aconst_null, 1) := by decide +kernel
theorem d_PT_decoded_75 : decode c_PT_decoded 75 = .ok (.areturn, 1) := by decide +kernel
theorem d_PT_decoded_76 : decode c_PT_decoded 76 = .ok (.iload 4, 2) := by decide +kernel
theorem d_PT_decoded_78 : decode c_PT_decoded 78 = .ok (.bipush 48, 2) := by decide +kernel
theorem d_PT_decoded_80 : decode c_PT_decoded 80 = .ok (.if_icmp .ne 8, 3) := by decide +kernel
theorem d_PT_decoded_83 : decode c_PT_decoded 83 = .ok (.bipush 126, 2) := by decide +kernel
theorem d_PT_decoded_85 : decode c_PT_decoded 85 = .ok (.goto 5, 3) := by decide +kernel
theorem d_PT_decoded_88 : decode c_PT_decoded 88 = .ok (.bipush 47, 2) := by decide +kernel
theorem d_PT_decoded_90 : decode c_PT_decoded 90 = .ok (.istore_n 3, 1) := by decide +kernel
theorem d_PT_decoded_91 : decode c_PT_decoded 91 = .ok (.aload_n 1, 1) := by decide +kernel
theorem d_PT_decoded_92 : decode c_PT_decoded 92 = .ok (.iload_n 3, 1) := by decide +kernel
theorem d_PT_decoded_93 : decode c_PT_decoded 93 = .ok (.invokevirtual 70, 3) := by decide +kernel
theorem d_PT_decoded_96 : decode c_PT_decoded 96 = .ok (.pop, 1) := by decide +kernel
theorem d_PT_decoded_97 : decode c_PT_decoded 97 = .ok (.iinc 2 1, 3) := by decide +kernel
theorem d_PT_decoded_100 : decode c_PT_decoded 100 = .ok (.goto (-82), 3) := by decide +kernel
theorem d_PT_decoded_103 : decode c_PT_decoded 103 = .ok (.aload_n 1, 1) := by decide +kernel
theorem d_PT_decoded_104 : decode c_PT_decoded 104 = .ok (.invokevirtual 74, 3) := by decide +kernel
theorem d_PT_decoded_107 : decode c_PT_decoded 107 = .ok (.areturn, 1) := by decide +kernel
def ws_PT_decoded : List Cond := .code y_PT_decoded c_PT_decoded 5 (some (.object "java/lang/String")) :: TBL
theorem d_ST_indexOf_0 : decode c_ST_indexOf 0 = .ok (.aload_n 0, 1) := by decide +kernel
theorem d_ST_indexOf_1 : decode c_ST_indexOf 1 = .ok (.iload_n 1, 1) := by decide +kernel
theorem d_ST_indexOf_2 : decode c_ST_indexOf 2 = .ok (.iconst 0, 1) := by decide +kernel
theorem d_ST_indexOf_3 : decode c_ST_indexOf 3 = .ok (.invokevirtual 633, 3) := by decide +kernel
theorem d_ST_indexOf_6 : decode c_ST_indexOf 6 = .ok (.ireturn, 1) := by decide +kernel
def ws_ST_indexOf : List Cond := .code y_ST_indexOf c_ST_indexOf 2 (some .int) :: TBL
theorem d_ST_indexOf2_0 : decode c_ST_indexOf2 0 = .ok (.aload_n 0, 1) := by decide +kernel
theorem d_ST_indexOf2_1 : decode c_ST_indexOf2 1 = .ok (.invokevirtual 492, 3) := by decide +kernel
theorem d_ST_indexOf2_4 : decode c_ST_indexOf2 4 = .ok (.ifCond .eq 19, 3) := by decide +kernel
theorem d_ST_indexOf2_7 : decode c_ST_indexOf2 7 = .ok (.aload_n 0, 1) := by decide +kernel
theorem d_ST_indexOf2_8 : decode c_ST_indexOf2 8 = .ok (.getfield 9, 3) := by decide +kernel
theorem d_ST_indexOf2_11 : decode c_ST_indexOf2 11 = .ok (.iload_n 1, 1) := by decide +kernel
theorem d_ST_indexOf2_12 : decode c_ST_indexOf2 12 = .ok (.iload_n 2, 1) := by decide +kernel
theorem d_ST_indexOf2_13 : decode c_ST_indexOf2 13 = .ok (.aload_n 0, 1) := by decide +kernel
theorem d_ST_indexOf2_14 : decode c_ST_indexOf2 14 = .ok (.invokevirtual 505, 3) := by decide +kernel
theorem d_ST_indexOf2_17 : decode c_ST_indexOf2 17 = .ok (.invokestatic 637, 3) := by decide +kernel
theorem d_ST_indexOf2_20 : decode c_ST_indexOf2 20 = .ok (.goto 16, 3) := by decide +kernel
theorem d_ST_indexOf2_23 : decode c_ST_indexOf2 23 = .ok (.aload_n 0, 1) := by decide +kernel
theorem d_ST_indexOf2_24 : decode c_ST_indexOf2 24 = .ok (.getfield 9, 3) := by decide +kernel
theorem d_ST_indexOf2_27 : decode c_ST_indexOf2 27 = .ok (.iload_n 1, 1) := by decide +kernel
theorem d_ST_indexOf2_28 : decode c_ST_indexOf2 28 = .ok (.iload_n 2, 1) := by decide +kernel
theorem d_ST_indexOf2_29 : decode c_ST_indexOf2 29 = .ok (.aload_n 0, 1) := by decide +kernel
theorem d_ST_indexOf2_30 : decode c_ST_indexOf2 30 = .ok (.invokevirtual 505, 3) := by decide +kernel
theorem d_ST_indexOf2_33 : decode c_ST_indexOf2 33 = .ok (.invokestatic 640, 3) := by decide +kernel
theorem d_ST_indexOf2_36 : decode c_ST_indexOf2 36 = .ok (.ireturn, 1) := by decide +kernel
def ws_ST_indexOf2 : List Cond := .code y_ST_indexOf2 c_ST_indexOf2 3 (some .int) :: TBL
theorem d_LT_indexOf_0 : decode c_LT_indexOf 0 = .ok (.iload_n 1, 1) := by decide +kernel
theorem d_LT_indexOf_1 : decode c_LT_indexOf 1 = .ok (.invokestatic 88, 3) := by decide +kernel
theorem d_LT_indexOf_4 : decode c_LT_indexOf 4 = .ok (.ifCond .ne 5, 3) := by decide +kernel
theorem d_LT_indexOf_7 : decode c_LT_indexOf 7 = .ok (.iconst (-1), 1) := by decide +kernel
theorem d_LT_indexOf_8 : decode c_LT_indexOf 8 = .ok (.ireturn, 1) := by decide +kernel
theorem d_LT_indexOf_9 : decode c_LT_indexOf 9 = .ok (.iload_n 2, 1) := by decide +kernel
theorem d_LT_indexOf_10 : decode c_LT_indexOf 10 = .ok (.iconst 0, 1) := by decide +kernel
theorem d_LT_indexOf_11 : decode c_LT_indexOf 11 = .ok (.invokestatic 92, 3) := by decide +kernel
theorem d_LT_indexOf_14 : decode c_LT_indexOf 14 = .ok (.istore_n 2, 1) := by decide +kernel
theorem d_LT_indexOf_15 : decode c_LT_indexOf 15 = .ok (.iload_n 3, 1) := by decide +kernel
theorem d_LT_indexOf_16 : decode c_LT_indexOf 16 = .ok (.aload_n 0, 1) := by decide +kernel
theorem d_LT_indexOf_17 : decode c_LT_indexOf 17 = .ok (.arraylength, 1) := by decide +kernel
theorem d_LT_indexOf_18 : decode c_LT_indexOf 18 = .ok (.invokestatic 38, 3) := by decide +kernel
theorem d_LT_indexOf_21 : decode c_LT_indexOf 21 = .ok (.istore_n 3, 1) := by decide +kernel
theorem d_LT_indexOf_22 : decode c_LT_indexOf 22 = .ok (.iload_n 2, 1) := by decide +kernel
theorem d_LT_indexOf_23 : decode c_LT_indexOf 23 = .ok (.iload_n 3, 1) := by decide +kernel
theorem d_LT_indexOf_24 : decode c_LT_indexOf 24 = .ok (.if_icmp .lt 5, 3) := by decide +kernel
theorem d_LT_indexOf_27 : decode c_LT_indexOf 27 = .ok (.iconst (-1), 1) := by decide +kernel
theorem d_LT_indexOf_28 : decode c_LT_indexOf 28 = .ok (.ireturn, 1) := by decide +kernel
theorem d_LT_indexOf_29 : decode c_LT_indexOf 29 = .ok (.aload_n 0, 1) := by decide +kernel
theorem d_LT_indexOf_30 : decode c_LT_indexOf 30 = .ok (.iload_n 1, 1) := by decide +kernel
theorem d_LT_indexOf_31 : decode c_LT_indexOf 31 = .ok (.iload_n 2, 1) := by decide +kernel
theorem d_LT_indexOf_32 : decode c_LT_indexOf 32 = .ok (.iload_n 3, 1) := by decide +kernel
theorem d_LT_indexOf_33 : decode c_LT_indexOf 33 = .ok (.invokestatic 95, 3) := by decide +kernel
theorem d_LT_indexOf_36 : decode c_LT_indexOf 36 = .ok (.ireturn, 1) := by decide +kernel
def ws_LT_indexOf : List Cond := .code y_LT_indexOf c_LT_indexOf 4 (some .int) :: TBL
theorem d_LT_canEncode2_0 : decode c_LT_canEncode2 0 = .ok (.iload_n 0, 1) := by decide +kernel
theorem d_LT_canEncode2_1 : decode c_LT_canEncode2 1 = .ok (.ifCond .lt 14, 3) := by decide +kernel
theorem d_LT_canEncode2_4 : decode c_LT_canEncode2 4 = .ok (.iload_n 0, 1) := by decide +kernel
theorem d_LT_canEncode2_5 : decode c_LT_canEncode2 5 = .ok (.sipush 255, 3) := by decide +kernel
theorem d_LT_canEncode2_8 : decode c_LT_canEncode2 8 = .ok (.if_icmp .gt 7, 3) := by decide +kernel
theorem d_LT_canEncode2_11 : decode c_LT_canEncode2 11 = .ok (.iconst 1, 1) := by decide +kernel
theorem d_LT_canEncode2_12 : decode c_LT_canEncode2 12 = .ok (.goto 4, 3) := by decide +kernel
theorem d_LT_canEncode2_15 : decode c_LT_canEncode2 15 = .ok (.iconst 0, 1) := by decide +kernel
theorem d_LT_canEncode2_16 : decode c_LT_canEncode2 16 = .ok (.ireturn, 1) := by decide +kernel
def ws_LT_canEncode2 : List Cond := .code y_LT_canEncode2 c_LT_canEncode2 1 (some .boolean) :: TBL
theorem d_LT_indexOfChar_0 : decode c_LT_indexOfChar 0 = .ok (.iload_n 1, 1) := by decide +kernel
theorem d_LT_indexOfChar_1 : decode c_LT_indexOfChar 1 = .ok (.i2b, 1) := by decide +kernel
theorem d_LT_indexOfChar_2 : decode c_LT_indexOfChar 2 = .ok (.istore 4, 2) := by decide +kernel
theorem d_LT_indexOfChar_4 : decode c_LT_indexOfChar 4 = .ok (.iload_n 2, 1) := by decide +kernel
theorem d_LT_indexOfChar_5 : decode c_LT_indexOfChar 5 = .ok (.istore 5, 2) := by decide +kernel
theorem d_LT_indexOfChar_7 : decode c_LT_indexOfChar 7 = .ok (.iload 5, 2) := by decide +kernel
theorem d_LT_indexOfChar_9 : decode c_LT_indexOfChar 9 = .ok (.iload_n 3, 1) := by decide +kernel
theorem d_LT_indexOfChar_10 : decode c_LT_indexOfChar 10 = .ok (.if_icmp .ge 21, 3) := by decide +kernel
theorem d_LT_indexOfChar_13 : decode c_LT_indexOfChar 13 = .ok (.aload_n 0, 1) := by decide +kernel
theorem d_LT_indexOfChar_14 : decode c_LT_indexOfChar 14 = .ok (.iload 5, 2) := by decide +kernel
theorem d_LT_indexOfChar_16 : decode c_LT_indexOfChar 16 = .ok (.baload, 1) := by decide +kernel
theorem d_LT_indexOfChar_17 : decode c_LT_indexOfChar 17 = .ok (.iload 4, 2) := by decide +kernel
theorem d_LT_indexOfChar_19 : decode c_LT_indexOfChar 19 = .ok (.if_icmp .ne 6, 3) := by decide +kernel
theorem d_LT_indexOfChar_22 : decode c_LT_indexOfChar 22 = .ok (.iload 5, 2) := by decide +kernel
theorem d_LT_indexOfChar_24 : decode c_LT_indexOfChar 24 = .ok (.ireturn, 1) := by decide +kernel
theorem d_LT_indexOfChar_25 : decode c_LT_indexOfChar 25 = .ok (.iinc 5 1, 3) := by decide +kernel
theorem d_LT_indexOfChar_28 : decode c_LT_indexOfChar 28 = .ok (.goto (-21), 3) := by decide +kernel
theorem d_LT_indexOfChar_31 : decode c_LT_indexOfChar 31 = .ok (.iconst (-1), 1) := by decide +kernel
theorem d_LT_indexOfChar_32 : decode c_LT_indexOfChar 32 = .ok (.ireturn, 1) := by decide +kernel
def ws_LT_indexOfChar : List Cond := .code y_LT_indexOfChar c_LT_indexOfChar 6 (some .int) :: TBL
theorem d_UT_indexOf_0 : decode c_UT_indexOf 0 = .ok (.iload_n 2, 1) := by decide +kernel
theorem d_UT_indexOf_1 : decode c_UT_indexOf 1 = .ok (.iconst 0, 1) := by decide +kernel
theorem d_UT_indexOf_2 : decode c_UT_indexOf 2 = .ok (.invokestatic 224, 3) := by decide +kernel
theorem d_UT_indexOf_5 : decode c_UT_indexOf 5 = .ok (.istore_n 2, 1) := by decide +kernel
theorem d_UT_indexOf_6 : decode c_UT_indexOf 6 = .ok (.iload_n 3, 1) := by decide +kernel
theorem d_UT_indexOf_7 : decode c_UT_indexOf 7 = .ok (.aload_n 0, 1) := by decide +kernel
theorem d_UT_indexOf_8 : decode c_UT_indexOf 8 = .ok (.arraylength, 1) := by decide +kernel
theorem d_UT_indexOf_9 : decode c_UT_indexOf 9 = .ok (.iconst 1, 1) := by decide +kernel
theorem d_UT_indexOf_10 : decode c_UT_indexOf 10 = .ok (.ishr, 1) := by decide +kernel
theorem d_UT_indexOf_11 : decode c_UT_indexOf 11 = .ok (.invokestatic 183, 3) := by decide +kernel
theorem d_UT_indexOf_14 : decode c_UT_indexOf 14 = .ok (.istore_n 3, 1) := by decide +kernel
theorem d_UT_indexOf_15 : decode c_UT_indexOf 15 = .ok (.iload_n 2, 1) := by decide +kernel
theorem d_UT_indexOf_16 : decode c_UT_indexOf 16 = .ok (.iload_n 3, 1) := by decide +kernel
theorem d_UT_indexOf_17 : decode c_UT_indexOf 17 = .ok (.if_icmp .lt 5, 3) := by decide +kernel
theorem d_UT_indexOf_20 : decode c_UT_indexOf 20 = .ok (.iconst (-1), 1) := by decide +kernel
theorem d_UT_indexOf_21 : decode c_UT_indexOf 21 = .ok (.ireturn, 1) := by decide +kernel
theorem d_UT_indexOf_22 : decode c_UT_indexOf 22 = .ok (.iload_n 1, 1) := by decide +kernel
theorem d_UT_indexOf_23 : decode c_UT_indexOf 23 = .ok (.ldc 227, 2) := by decide +kernel
theorem d_UT_indexOf_25 : decode c_UT_indexOf 25 = .ok (.if_icmp .ge 11, 3) := by decide +kernel
theorem d_UT_indexOf_28 : decode c_UT_indexOf 28 = .ok (.aload_n 0, 1) := by decide +kernel
theorem d_UT_indexOf_29 : decode c_UT_indexOf 29 = .ok (.iload_n 1, 1) := by decide +kernel
theorem d_UT_indexOf_30 : decode c_UT_indexOf 30 = .ok (.iload_n 2, 1) := by decide +kernel
theorem d_UT_indexOf_31 : decode c_UT_indexOf 31 = .ok (.iload_n 3, 1) := by decide +kernel
theorem d_UT_indexOf_32 : decode c_UT_indexOf 32 = .ok (.invokestatic 228, 3) := by decide +kernel
theorem d_UT_indexOf_35 : decode c_UT_indexOf 35 = .ok (.ireturn, 1) := by decide +kernel
theorem d_UT_indexOf_36 : decode c_UT_indexOf 36 = .ok (.aload_n 0, 1) := by decide +kernel
theorem d_UT_indexOf_37 : decode c_UT_indexOf 37 = .ok (.iload_n 1, 1) := by decide +kernel
theorem d_UT_indexOf_38 : decode c_UT_indexOf 38 = .ok (.iload_n 2, 1) := by decide +kernel
theorem d_UT_indexOf_39 : decode c_UT_indexOf 39 = .ok (.iload_n 3, 1) := by decide +kernel
theorem d_UT_indexOf_40 : decode c_UT_indexOf 40 = .ok (.invokestatic 232, 3) := by decide +kernel
theorem d_UT_indexOf_43 : decode c_UT_indexOf 43 = .ok (.ireturn, 1) := by decide +kernel
def ws_UT_indexOf : List Cond := .code y_UT_indexOf c_UT_indexOf 4 (some .int) :: TBL
theorem d_UT_indexOfChar_0 : decode c_UT_indexOfChar 0 = .ok (.iload_n 2, 1) := by decide +kernel
theorem d_UT_indexOfChar_1 : decode c_UT_indexOfChar 1 = .ok (.iload_n 3, 1) := by decide +kernel
theorem d_UT_indexOfChar_2 : decode c_UT_indexOfChar 2 = .ok (.aload_n 0, 1) := by decide +kernel
theorem d_UT_indexOfChar_3 : decode c_UT_indexOfChar 3 = .ok (.invokestatic 96, 3) := by decide +kernel
theorem d_UT_indexOfChar_6 : decode c_UT_indexOfChar 6 = .ok (.aload_n 0, 1) := by decide +kernel
theorem d_UT_indexOfChar_7 : decode c_UT_indexOfChar 7 = .ok (.iload_n 1, 1) := by decide +kernel
theorem d_UT_indexOfChar_8 : decode c_UT_indexOfChar 8 = .ok (.iload_n 2, 1) := by decide +kernel
theorem d_UT_indexOfChar_9 : decode c_UT_indexOfChar 9 = .ok (.iload_n 3, 1) := by decide +kernel
theorem d_UT_indexOfChar_10 : decode c_UT_indexOfChar 10 = .ok (.invokestatic 244, 3) := by decide +kernel
theorem d_UT_indexOfChar_13 : decode c_UT_indexOfChar 13 = .ok (.ireturn, 1) := by decide +kernel
def ws_UT_indexOfChar : List Cond := .code y_UT_indexOfChar c_UT_indexOfChar 4 (some .int) :: TBL
theorem d_UT_checkBoundsBeginEnd_0 : decode c_UT_checkBoundsBeginEnd 0 = .ok (.iload_n 0, 1) := by decide +kernel
theorem d_UT_checkBoundsBeginEnd_1 : decode c_UT_checkBoundsBeginEnd 1 = .ok (.iload_n 1, 1) := by decide +kernel
theorem d_UT_checkBoundsBeginEnd_2 : decode c_UT_checkBoundsBeginEnd 2 = .ok (.aload_n 2, 1) := by decide +kernel
theorem d_UT_checkBoundsBeginEnd_3 : decode c_UT_checkBoundsBeginEnd 3 = .ok (.invokestatic 48, 3) := by decide +kernel
theorem d_UT_checkBoundsBeginEnd_6 : decode c_UT_checkBoundsBeginEnd 6 = .ok (.invokestatic 241, 3) := by decide +kernel
theorem d_UT_checkBoundsBeginEnd_9 : decode c_UT_checkBoundsBeginEnd 9 = .ok (.return_, 1) := by decide +kernel
def ws_UT_checkBoundsBeginEnd : List Cond := .code y_UT_checkBoundsBeginEnd c_UT_checkBoundsBeginEnd 3 none :: TBL
theorem d_UT_indexOfCharUnsafe_0 : decode c_UT_indexOfCharUnsafe 0 = .ok (.iload_n 2, 1) := by decide +kernel
theorem d_UT_indexOfCharUnsafe_1 : decode c_UT_indexOfCharUnsafe 1 = .ok (.istore 4, 2) := by decide +kernel
theorem d_UT_indexOfCharUnsafe_3 : decode c_UT_indexOfCharUnsafe 3 = .ok (.iload 4, 2) := by decide +kernel
theorem d_UT_indexOfCharUnsafe_5 : decode c_UT_indexOfCharUnsafe 5 = .ok (.iload_n 3, 1) := by decide +kernel
theorem d_UT_indexOfCharUnsafe_6 : decode c_UT_indexOfCharUnsafe 6 = .ok (.if_icmp .ge 22, 3) := by decide +kernel
theorem d_UT_indexOfCharUnsafe_9 : decode c_UT_indexOfCharUnsafe 9 = .ok (.aload_n 0, 1) := by decide +kernel
theorem d_UT_indexOfCharUnsafe_10 : decode c_UT_indexOfCharUnsafe 10 = .ok (.iload 4, 2) := by decide +kernel
theorem d_UT_indexOfCharUnsafe_12 : decode c_UT_indexOfCharUnsafe 12 = .ok (.invokestatic 71, 3) := by decide +kernel
theorem d_UT_indexOfCharUnsafe_15 : decode c_UT_indexOfCharUnsafe 15 = .ok (.iload_n 1, 1) := by decide +kernel
theorem d_UT_indexOfCharUnsafe_16 : decode c_UT_indexOfCharUnsafe 16 = .ok (.if_icmp .ne 6, 3) := by decide +kernel
theorem d_UT_indexOfCharUnsafe_19 : decode c_UT_indexOfCharUnsafe 19 = .ok (.iload 4, 2) := by decide +kernel
theorem d_UT_indexOfCharUnsafe_21 : decode c_UT_indexOfCharUnsafe 21 = .ok (.ireturn, 1) := by decide +kernel
theorem d_UT_indexOfCharUnsafe_22 : decode c_UT_indexOfCharUnsafe 22 = .ok (.iinc 4 1, 3) := by decide +kernel
theorem d_UT_indexOfCharUnsafe_25 : decode c_UT_indexOfCharUnsafe 25 = .ok (.goto (-22), 3) := by decide +kernel
theorem d_UT_indexOfCharUnsafe_28 : decode c_UT_indexOfCharUnsafe 28 = .ok (.iconst (-1), 1) := by decide +kernel
theorem d_UT_indexOfCharUnsafe_29 : decode c_UT_indexOfCharUnsafe 29 = .ok (.ireturn, 1) := by decide +kernel
def ws_UT_indexOfCharUnsafe : List Cond := .code y_UT_indexOfCharUnsafe c_UT_indexOfCharUnsafe 5 (some .int) :: TBL
theorem d_UT_indexOfSupplementary_0 : decode c_UT_indexOfSupplementary 0 = .ok (.iload_n 1, 1) := by decide +kernel
theorem d_UT_indexOfSupplementary_1 : decode c_UT_indexOfSupplementary 1 = .ok (.invokestatic 164, 3) := by decide +kernel
theorem d_UT_indexOfSupplementary_4 : decode c_UT_indexOfSupplementary 4 = .ok (.ifCond .eq 65, 3) := by decide +kernel
theorem d_UT_indexOfSupplementary_7 : decode c_UT_indexOfSupplementary 7 = .ok (.iload_n 1, 1) := by decide +kernel
theorem d_UT_indexOfSupplementary_8 : decode c_UT_indexOfSupplementary 8 = .ok (.invokestatic 157, 3) := by decide +kernel
theorem d_UT_indexOfSupplementary_11 : decode c_UT_indexOfSupplementary 11 = .ok (.istore 4, 2) := by decide +kernel
theorem d_UT_indexOfSupplementary_13 : decode c_UT_indexOfSupplementary 13 = .ok (.iload_n 1, 1) := by decide +kernel
theorem d_UT_indexOfSupplementary_14 : decode c_UT_indexOfSupplementary 14 = .ok (.invokestatic 161, 3) := by decide +kernel
theorem d_UT_indexOfSupplementary_17 : decode c_UT_indexOfSupplementary 17 = .ok (.istore 5, 2) := by decide +kernel
theorem d_UT_indexOfSupplementary_19 : decode c_UT_indexOfSupplementary 19 = .ok (.iload_n 2, 1) := by decide +kernel
theorem d_UT_indexOfSupplementary_20 : decode c_UT_indexOfSupplementary 20 = .ok (.iload_n 3, 1) := by decide +kernel
theorem d_UT_indexOfSupplementary_21 : decode c_UT_indexOfSupplementary 21 = .ok (.aload_n 0, 1) := by decide +kernel
theorem d_UT_indexOfSupplementary_22 : decode c_UT_indexOfSupplementary 22 = .ok (.invokestatic 96, 3) := by decide +kernel
theorem d_UT_indexOfSupplementary_25 : decode c_UT_indexOfSupplementary 25 = .ok (.iload_n 2, 1) := by decide +kernel
theorem d_UT_indexOfSupplementary_26 : decode c_UT_indexOfSupplementary 26 = .ok (.istore 6, 2) := by decide +kernel
theorem d_UT_indexOfSupplementary_28 : decode c_UT_indexOfSupplementary 28 = .ok (.iload 6, 2) := by decide +kernel
theorem d_UT_indexOfSupplementary_30 : decode c_UT_indexOfSupplementary 30 = .ok (.iload_n 3, 1) := by decide +kernel
theorem d_UT_indexOfSupplementary_31 : decode c_UT_indexOfSupplementary 31 = .ok (.iconst 1, 1) := by decide +kernel
theorem d_UT_indexOfSupplementary_32 : decode c_UT_indexOfSupplementary 32 = .ok (.isub, 1) := by decide +kernel
theorem d_UT_indexOfSupplementary_33 : decode c_UT_indexOfSupplementary 33 = .ok (.if_icmp .ge 36, 3) := by decide +kernel
theorem d_UT_indexOfSupplementary_36 : decode c_UT_indexOfSupplementary 36 = .ok (.aload_n 0, 1) := by decide +kernel
theorem d_UT_indexOfSupplementary_37 : decode c_UT_indexOfSupplementary 37 = .ok (.iload 6, 2) := by decide +kernel
theorem d_UT_indexOfSupplementary_39 : decode c_UT_indexOfSupplementary 39 = .ok (.invokestatic 71, 3) := by decide +kernel
theorem d_UT_indexOfSupplementary_42 : decode c_UT_indexOfSupplementary 42 = .ok (.iload 4, 2) := by decide +kernel
theorem d_UT_indexOfSupplementary_44 : decode c_UT_indexOfSupplementary 44 = .ok (.if_icmp .ne 19, 3) := by decide +kernel
theorem d_UT_indexOfSupplementary_47 : decode c_UT_indexOfSupplementary 47 = .ok (.aload_n 0, 1) := by decide +kernel
theorem d_UT_indexOfSupplementary_48 : decode c_UT_indexOfSupplementary 48 = .ok (.iload 6, 2) := by decide +kernel
theorem d_UT_indexOfSupplementary_50 : decode c_UT_indexOfSupplementary 50 = .ok (.iconst 1, 1) := by decide +kernel
theorem d_UT_indexOfSupplementary_51 : decode c_UT_indexOfSupplementary 51 = .ok (.iadd, 1) := by decide +kernel
theorem d_UT_indexOfSupplementary_52 : decode c_UT_indexOfSupplementary 52 = .ok (.invokestatic 71, 3) := by decide +kernel
theorem d_UT_indexOfSupplementary_55 : decode c_UT_indexOfSupplementary 55 = .ok (.iload 5, 2) := by decide +kernel
theorem d_UT_indexOfSupplementary_57 : decode c_UT_indexOfSupplementary 57 = .ok (.if_icmp .ne 6, 3) := by decide +kernel
theorem d_UT_indexOfSupplementary_60 : decode c_UT_indexOfSupplementary 60 = .ok (.iload 6, 2) := by decide +kernel
theorem d_UT_indexOfSupplementary_62 : decode c_UT_indexOfSupplementary 62 = .ok (.ireturn, 1) := by decide +kernel
theorem d_UT_indexOfSupplementary_63 : decode c_UT_indexOfSupplementary 63 = .ok (.iinc 6 1, 3) := by decide +kernel
theorem d_UT_indexOfSupplementary_66 : decode c_UT_indexOfSupplementary 66 = .ok (.goto (-38), 3) := by decide +kernel
theorem d_UT_indexOfSupplementary_69 : decode c_UT_indexOfSupplementary 69 = .ok (.iconst (-1), 1) := by decide +kernel
theorem d_UT_indexOfSupplementary_70 : decode c_UT_indexOfSupplementary 70 = .ok (.ireturn, 1) := by decide +kernel
def ws_UT_indexOfSupplementary : List Cond := .code y_UT_indexOfSupplementary c_UT_indexOfSupplementary 7 (some .int) :: TBL
theorem d_CH_isValidCodePoint_0 : decode c_CH_isValidCodePoint 0 = .ok (.iload_n 0, 1) := by decide +kernel
theorem d_CH_isValidCodePoint_1 : decode c_CH_isValidCodePoint 1 = .ok (.bipush 16, 2) := by decide +kernel
theorem d_CH_isValidCodePoint_3 : decode c_CH_isValidCodePoint 3 = .ok (.iushr, 1) := by decide +kernel
theorem d_CH_isValidCodePoint_4 : decode c_CH_isValidCodePoint 4 = .ok (.istore_n 1, 1) := by decide +kernel
theorem d_CH_isValidCodePoint_5 : decode c_CH_isValidCodePoint 5 = .ok (.iload_n 1, 1) := by decide +kernel
theorem d_CH_isValidCodePoint_6 : decode c_CH_isValidCodePoint 6 = .ok (.bipush 17, 2) := by decide +kernel
theorem d_CH_isValidCodePoint_8 : decode c_CH_isValidCodePoint 8 = .ok (.if_icmp .ge 7, 3) := by decide +kernel
theorem d_CH_isValidCodePoint_11 : decode c_CH_isValidCodePoint 11 = .ok (.iconst 1, 1) := by decide +kernel
theorem d_CH_isValidCodePoint_12 : decode c_CH_isValidCodePoint 12 = .ok (.goto 4, 3) := by decide +kernel
theorem d_CH_isValidCodePoint_15 : decode c_CH_isValidCodePoint 15 = .ok (.iconst 0, 1) := by decide +kernel
theorem d_CH_isValidCodePoint_16 : decode c_CH_isValidCodePoint 16 = .ok (.ireturn, 1) := by decide +kernel
def ws_CH_isValidCodePoint : List Cond := .code y_CH_isValidCodePoint c_CH_isValidCodePoint 2 (some .boolean) :: TBL
theorem d_CH_highSurrogate_0 : decode c_CH_highSurrogate 0 = .ok (.iload_n 0, 1) := by decide +kernel
theorem d_CH_highSurrogate_1 : decode c_CH_highSurrogate 1 = .ok (.bipush 10, 2) := by decide +kernel
theorem d_CH_highSurrogate_3 : decode c_CH_highSurrogate 3 = .ok (.iushr, 1) := by decide +kernel
theorem d_CH_highSurrogate_4 : decode c_CH_highSurrogate 4 = .ok (.ldc 110, 2) := by decide +kernel
theorem d_CH_highSurrogate_6 : decode c_CH_highSurrogate 6 = .ok (.iadd, 1) := by decide +kernel
theorem d_CH_highSurrogate_7 : decode c_CH_highSurrogate 7 = .ok (.i2c, 1) := by decide +kernel
theorem d_CH_highSurrogate_8 : decode c_CH_highSurrogate 8 = .ok (.ireturn, 1) := by decide +kernel
def ws_CH_highSurrogate : List Cond := .code y_CH_highSurrogate c_CH_highSurrogate 1 (some .char) :: TBL
theorem d_CH_lowSurrogate_0 : decode c_CH_lowSurrogate 0 = .ok (.iload_n 0, 1) := by decide +kernel
theorem d_CH_lowSurrogate_1 : decode c_CH_lowSurrogate 1 = .ok (.sipush 1023, 3) := by decide +kernel
theorem d_CH_lowSurrogate_4 : decode c_CH_lowSurrogate 4 = .ok (.iand, 1) := by decide +kernel
theorem d_CH_lowSurrogate_5 : decode c_CH_lowSurrogate 5 = .ok (.ldc 76, 2) := by decide +kernel
theorem d_CH_lowSurrogate_7 : decode c_CH_lowSurrogate 7 = .ok (.iadd, 1) := by decide +kernel
theorem d_CH_lowSurrogate_8 : decode c_CH_lowSurrogate 8 = .ok (.i2c, 1) := by decide +kernel
theorem d_CH_lowSurrogate_9 : decode c_CH_lowSurrogate 9 = .ok (.ireturn, 1) := by decide +kernel
def ws_CH_lowSurrogate : List Cond := .code y_CH_lowSurrogate c_CH_lowSurrogate 1 (some .char) :: TBL
theorem d_OP_init_0 : decode c_OP_init 0 = .ok (.aload_n 0, 1) := by decide +kernel
theorem d_OP_init_1 : decode c_OP_init 1 = .ok (.invokespecial 3, 3) := by decide +kernel
theorem d_OP_init_4 : decode c_OP_init 4 = .ok (.aload_n 0, 1) := by decide +kernel
theorem d_OP_init_5 : decode c_OP_init 5 = .ok (.iload_n 1, 1) := by decide +kernel
theorem d_OP_init_6 : decode c_OP_init 6 = .ok (.putfield 9, 3) := by decide +kernel
theorem d_OP_init_9 : decode c_OP_init 9 = .ok (.aload_n 0, 1) := by decide +kernel
theorem d_OP_init_10 : decode c_OP_init 10 = .ok (.aload_n 2, 1) := by decide +kernel
theorem d_OP_init_11 : decode c_OP_init 11 = .ok (.putfield 15, 3) := by decide +kernel
theorem d_OP_init_14 : decode c_OP_init 14 = .ok (.aload_n 0, 1) := by decide +kernel
theorem d_OP_init_15 : decode c_OP_init 15 = .ok (.aload_n 3, 1) := by decide +kernel
theorem d_OP_init_16 : decode c_OP_init 16 = .ok (.putfield 19, 3) := by decide +kernel
theorem d_OP_init_19 : decode c_OP_init 19 = .ok (.aload_n 0, 1) := by decide +kernel
theorem d_OP_init_20 : decode c_OP_init 20 = .ok (.aload 4, 2) := by decide +kernel
theorem d_OP_init_22 : decode c_OP_init 22 = .ok (.putfield 22, 3) := by decide +kernel
theorem d_OP_init_25 : decode c_OP_init 25 = .ok (.return_, 1) := by decide +kernel
def ws_OP_init : List Cond := .code y_OP_init c_OP_init 5 none :: TBL
theorem d_PA_init_0 : decode c_PA_init 0 = .ok (.aload_n 0, 1) := by decide +kernel
theorem d_PA_init_1 : decode c_PA_init 1 = .ok (.invokespecial 3, 3) := by decide +kernel
theorem d_PA_init_4 : decode c_PA_init 4 = .ok (.aload_n 0, 1) := by decide +kernel
theorem d_PA_init_5 : decode c_PA_init 5 = .ok (.bipush 6, 2) := by decide +kernel
theorem d_PA_init_7 : decode c_PA_init 7 = .ok (.putfield 9, 3) := by decide +kernel
theorem d_PA_init_10 : decode c_PA_init 10 = .ok (.aload_n 0, 1) := by decide +kernel
theorem d_PA_init_11 : decode c_PA_init 11 = .ok (.aload_n 1, 1) := by decide +kernel
theorem d_PA_init_12 : decode c_PA_init 12 = .ok (.putfield 15, 3) := by decide +kernel
theorem d_PA_init_15 : decode c_PA_init 15 = .ok (.aload_n 0, 1) := by decide +kernel
theorem d_PA_init_16 : decode c_PA_init 16 = .ok (.iload_n 2, 1) := by decide +kernel
theorem d_PA_init_17 : decode c_PA_init 17 = .ok (.putfield 19, 3) := by decide +kernel
theorem d_PA_init_20 : decode c_PA_init 20 = .ok (.aload_n 0, 1) := by decide +kernel
theorem d_PA_init_21 : decode c_PA_init 21 = .ok (.iload_n 3, 1) := by decide +kernel
theorem d_PA_init_22 : decode c_PA_init 22 = .ok (.putfield 22, 3) := by decide +kernel
theorem d_PA_init_25 : decode c_PA_init 25 = .ok (.return_, 1) := by decide +kernel
def ws_PA_init : List Cond := .code y_PA_init c_PA_init 4 none :: TBL
theorem d_PA_perform_0 : decode c_PA_perform 0 = .ok (.iconst 0, 1) := by decide +kernel
theorem d_PA_perform_1 : decode c_PA_perform 1 = .ok (.istore_n 2, 1) := by decide +kernel
theorem d_PA_perform_2 : decode c_PA_perform 2 = .ok (.iload_n 2, 1) := by decide +kernel
theorem d_PA_perform_3 : decode c_PA_perform 3 = .ok (.aload_n 1, 1) := by decide +kernel
theorem d_PA_perform_4 : decode c_PA_perform 4 = .ok (.invokevirtual 25, 3) := by decide +kernel
theorem d_PA_perform_7 : decode c_PA_perform 7 = .ok (.if_icmp .ge 62, 3) := by decide +kernel
theorem d_PA_perform_10 : decode c_PA_perform 10 = .ok (.aload_n 0, 1) := by decide +kernel
theorem d_PA_perform_11 : decode c_PA_perform 11 = .ok (.aload_n 1, 1) := by decide +kernel
theorem d_PA_perform_12 : decode c_PA_perform 12 = .ok (.iload_n 2, 1) := by decide +kernel
theorem d_PA_perform_13 : decode c_PA_perform 13 = .ok (.invokevirtual 31, 3) := by decide +kernel
theorem d_PA_perform_16 : decode c_PA_perform 16 = .ok (.checkcast 35, 3) := by decide +kernel
theorem d_PA_perform_19 : decode c_PA_perform 19 = .ok (.invokevirtual 37, 3) := by decide +kernel
theorem d_PA_perform_22 : decode c_PA_perform 22 = .ok (.astore_n 3, 1) := by decide +kernel
theorem d_PA_perform_23 : decode c_PA_perform 23 = .ok (.aload_n 3, 1) := by decide +kernel
theorem d_PA_perform_24 : decode c_PA_perform 24 = .ok (.ifnonnull 8, 3) := by decide +kernel
theorem d_PA_perform_27 : decode c_PA_perform 27 = .ok (.aload_n 0, 1) := by decide +kernel
theorem d_PA_perform_28 : decode c_PA_perform 28 = .ok (.getfield 9, 3) := by decide +kernel
theorem d_PA_perform_31 : decode c_PA_perform 31 = .ok (.ireturn, 1) := by decide +kernel
theorem d_PA_perform_32 : decode c_PA_perform 32 = .ok (.aload_n 3, 1) := by decide +kernel
theorem d_PA_perform_33 : decode c_PA_perform 33 = .ok (.getfield 41, 3) := by decide +kernel
theorem d_PA_perform_36 : decode c_PA_perform 36 = .ok (.aload_n 0, 1) := by decide +kernel
theorem d_PA_perform_37 : decode c_PA_perform 37 = .ok (.getfield 19, 3) := by decide +kernel
theorem d_PA_perform_40 : decode c_PA_perform 40 = .ok (.if_icmp .le 5, 3) := by decide +kernel
theorem d_PA_perform_43 : decode c_PA_perform 43 = .ok (.iconst 2, 1) := by decide +kernel
theorem d_PA_perform_44 : decode c_PA_perform 44 = .ok (.ireturn, 1) := by decide +kernel
theorem d_PA_perform_45 : decode c_PA_perform 45 = .ok (.aload_n 3, 1) := by decide +kernel
theorem d_PA_perform_46 : decode c_PA_perform 46 = .ok (.getfield 46, 3) := by decide +kernel
theorem d_PA_perform_49 : decode c_PA_perform 49 = .ok (.aload_n 0, 1) := by decide +kernel
theorem d_PA_perform_50 : decode c_PA_perform 50 = .ok (.getfield 22, 3) := by decide +kernel
theorem d_PA_perform_53 : decode c_PA_perform 53 = .ok (.if_icmp .le 5, 3) := by decide +kernel
theorem d_PA_perform_56 : decode c_PA_perform 56 = .ok (.iconst 4, 1) := by decide +kernel
theorem d_PA_perform_57 : decode c_PA_perform 57 = .ok (.ireturn, 1) := by decide +kernel
theorem d_PA_perform_58 : decode c_PA_perform 58 = .ok (.aload_n 0, 1) := by decide +kernel
theorem d_PA_perform_59 : decode c_PA_perform 59 = .ok (.aload_n 3, 1) := by decide +kernel
theorem d_PA_perform_60 : decode c_PA_perform 60 = .ok (.putfield 15, 3) := by decide +kernel
theorem d_PA_perform_63 : decode c_PA_perform 63 = .ok (.iinc 2 1, 3) := by decide +kernel
theorem d_PA_perform_66 : decode c_PA_perform 66 = .ok (.goto (-64), 3) := by decide +kernel
theorem d_PA_perform_69 : decode c_PA_perform 69 = .ok (.iconst 0, 1) := by decide +kernel
theorem d_PA_perform_70 : decode c_PA_perform 70 = .ok (.ireturn, 1) := by decide +kernel
def ws_PA_perform : List Cond := .code y_PA_perform c_PA_perform 4 (some .int) :: TBL
theorem d_PA_after_0 : decode c_PA_after 0 = .ok (.aload_n 1, 1) := by decide +kernel
theorem d_PA_after_1 : decode c_PA_after 1 = .ok (.getfield 49, 3) := by decide +kernel
theorem d_PA_after_4 : decode c_PA_after 4 = .ok (.tableswitch 95 4 6 #[28, 41, 75], 28) := by decide +kernel
theorem d_PA_after_32 : decode c_PA_after 32 = .ok (.aload_n 0, 1) := by decide +kernel
theorem d_PA_after_33 : decode c_PA_after 33 = .ok (.aload_n 1, 1) := by decide +kernel
theorem d_PA_after_34 : decode c_PA_after 34 = .ok (.getfield 52, 3) := by decide +kernel
theorem d_PA_after_37 : decode c_PA_after 37 = .ok (.aload_n 1, 1) := by decide +kernel
theorem d_PA_after_38 : decode c_PA_after 38 = .ok (.getfield 56, 3) := by decide +kernel
theorem d_PA_after_41 : decode c_PA_after 41 = .ok (.invokevirtual 59, 3) := by decide +kernel
theorem d_PA_after_44 : decode c_PA_after 44 = .ok (.areturn, 1) := by decide +kernel
theorem d_PA_after_45 : decode c_PA_after 45 = .ok (.aload_n 1, 1) := by decide +kernel
theorem d_PA_after_46 : decode c_PA_after 46 = .ok (.getfield 52, 3) := by decide +kernel
theorem d_PA_after_49 : decode c_PA_after 49 = .ok (.aload_n 0, 1) := by decide +kernel
theorem d_PA_after_50 : decode c_PA_after 50 = .ok (.getfield 15, 3) := by decide +kernel
theorem d_PA_after_53 : decode c_PA_after 53 = .ok (.invokevirtual 63, 3) := by decide +kernel
theorem d_PA_after_56 : decode c_PA_after 56 = .ok (.astore_n 2, 1) := by decide +kernel
theorem d_PA_after_57 : decode c_PA_after 57 = .ok (.aload_n 2, 1) := by decide +kernel
theorem d_PA_after_58 : decode c_PA_after 58 = .ok (.ifnonnull 7, 3) := by decide +kernel
theorem d_PA_after_61 : decode c_PA_after 61 = .ok (.aconst_null, 1) := by decide +kernel
theorem d_PA_after_62 : decode c_PA_after 62 = .ok (.goto 16, 3) := by decide +kernel
theorem d_PA_after_65 : decode c_PA_after 65 = .ok (.aload_n 0, 1) := by decide +kernel
theorem d_PA_after_66 : decode c_PA_after 66 = .ok (.getfield 15, 3) := by decide +kernel
theorem d_PA_after_69 : decode c_PA_after 69 = .ok (.aload_n 1, 1) := by decide +kernel
theorem d_PA_after_70 : decode c_PA_after 70 = .ok (.getfield 56, 3) := by decide +kernel
theorem d_PA_after_73 : decode c_PA_after 73 = .ok (.iconst 1, 1) := by decide +kernel
theorem d_PA_after_74 : decode c_PA_after 74 = .ok (.aload_n 2, 1) := by decide +kernel
theorem d_PA_after_75 : decode c_PA_after 75 = .ok (.invokestatic 69, 3) := by decide +kernel
theorem d_PA_after_78 : decode c_PA_after 78 = .ok (.areturn, 1) := by decide +kernel
theorem d_PA_after_79 : decode c_PA_after 79 = .ok (.aload_n 0, 1) := by decide +kernel
theorem d_PA_after_80 : decode c_PA_after 80 = .ok (.aload_n 1, 1) := by decide +kernel
theorem d_PA_after_81 : decode c_PA_after 81 = .ok (.getfield 56, 3) := by decide +kernel
theorem d_PA_after_84 : decode c_PA_after 84 = .ok (.aload_n 0, 1) := by decide +kernel
theorem d_PA_after_85 : decode c_PA_after 85 = .ok (.getfield 15, 3) := by decide +kernel
theorem d_PA_after_88 : decode c_PA_after 88 = .ok (.invokevirtual 63, 3) := by decide +kernel
theorem d_PA_after_91 : decode c_PA_after 91 = .ok (.aload_n 1, 1) := by decide +kernel
theorem d_PA_after_92 : decode c_PA_after 92 = .ok (.getfield 73, 3) := by decide +kernel
theorem d_PA_after_95 : decode c_PA_after 95 = .ok (.invokevirtual 76, 3) := by decide +kernel
theorem d_PA_after_98 : decode c_PA_after 98 = .ok (.areturn, 1) := by decide +kernel
theorem d_PA_after_99 : decode c_PA_after 99 = .ok (.aload_n 0, 1) := by decide +kernel
theorem d_PA_after_100 : decode c_PA_after 100 = .ok (.getfield 15, 3) := by decide +kernel
theorem d_PA_after_103 : decode c_PA_after 103 = .ok (.aload_n 1, 1) := by decide +kernel
theorem d_PA_after_104 : decode c_PA_after 104 = .ok (.getfield 56, 3) := by decide +kernel
theorem d_PA_after_107 : decode c_PA_after 107 = .ok (.aload_n 1, 1) := by decide +kernel
theorem d_PA_after_108 : decode c_PA_after 108 = .ok (.getfield 49, 3) := by decide +kernel
theorem d_PA_after_111 : decode c_PA_after 111 = .ok (.aload_n 1, 1) := by decide +kernel
theorem d_PA_after_112 : decode c_PA_after 112 = .ok (.getfield 73, 3) := by decide +kernel
theorem d_PA_after_115 : decode c_PA_after 115 = .ok (.invokestatic 69, 3) := by decide +kernel
theorem d_PA_after_118 : decode c_PA_after 118 = .ok (.areturn, 1) := by decide +kernel
def ws_PA_after : List Cond := .code y_PA_after c_PA_after 3 (some (.object "PatchStore$Value")) :: TBL
theorem d_PA_afterMove_0 : decode c_PA_afterMove 0 = .ok (.aload_n 1, 1) := by decide +kernel
theorem d_PA_afterMove_1 : decode c_PA_afterMove 1 = .ok (.aload_n 0, 1) := by decide +kernel
theorem d_PA_afterMove_2 : decode c_PA_afterMove 2 = .ok (.getfield 15, 3) := by decide +kernel
theorem d_PA_afterMove_5 : decode c_PA_afterMove 5 = .ok (.invokevirtual 63, 3) := by decide +kernel
theorem d_PA_afterMove_8 : decode c_PA_afterMove 8 = .ok (.astore_n 3, 1) := by decide +kernel
theorem d_PA_afterMove_9 : decode c_PA_afterMove 9 = .ok (.aload_n 3, 1) := by decide +kernel
theorem d_PA_afterMove_10 : decode c_PA_afterMove 10 = .ok (.ifnonnull 5, 3) := by decide +kernel
theorem d_PA_afterMove_13 : decode c_PA_afterMove 13 = .ok (.aconst_null, 1) := by decide +kernel
theorem d_PA_afterMove_14 : decode c_PA_afterMove 14 = .ok (.areturn, 1) := by decide +kernel
theorem d_PA_afterMove_15 : decode c_PA_afterMove 15 = .ok (.aload_n 2, 1) := by decide +kernel
theorem d_PA_afterMove_16 : decode c_PA_afterMove 16 = .ok (.aload_n 1, 1) := by decide +kernel
theorem d_PA_afterMove_17 : decode c_PA_afterMove 17 = .ok (.invokevirtual 84, 3) := by decide +kernel
theorem d_PA_afterMove_20 : decode c_PA_afterMove 20 = .ok (.ifCond .eq 20, 3) := by decide +kernel
theorem d_PA_afterMove_23 : decode c_PA_afterMove 23 = .ok (.aload_n 1, 1) := by decide +kernel
theorem d_PA_afterMove_24 : decode c_PA_afterMove 24 = .ok (.aload_n 2, 1) := by decide +kernel
theorem d_PA_afterMove_25 : decode c_PA_afterMove 25 = .ok (.invokevirtual 84, 3) := by decide +kernel
theorem d_PA_afterMove_28 : decode c_PA_afterMove 28 = .ok (.ifCond .eq 10, 3) := by decide +kernel
theorem d_PA_afterMove_31 : decode c_PA_afterMove 31 = .ok (.aload_n 0, 1) := by decide +kernel
theorem d_PA_afterMove_32 : decode c_PA_afterMove 32 = .ok (.getfield 15, 3) := by decide +kernel
theorem d_PA_afterMove_35 : decode c_PA_afterMove 35 = .ok (.goto 4, 3) := by decide +kernel
theorem d_PA_afterMove_38 : decode c_PA_afterMove 38 = .ok (.aconst_null, 1) := by decide +kernel
theorem d_PA_afterMove_39 : decode c_PA_afterMove 39 = .ok (.areturn, 1) := by decide +kernel
theorem d_PA_afterMove_40 : decode c_PA_afterMove 40 = .ok (.aload_n 0, 1) := by decide +kernel
theorem d_PA_afterMove_41 : decode c_PA_afterMove 41 = .ok (.getfield 15, 3) := by decide +kernel
theorem d_PA_afterMove_44 : decode c_PA_afterMove 44 = .ok (.aload_n 1, 1) := by decide +kernel
theorem d_PA_afterMove_45 : decode c_PA_afterMove 45 = .ok (.iconst 2, 1) := by decide +kernel
theorem d_PA_afterMove_46 : decode c_PA_afterMove 46 = .ok (.aconst_null, 1) := by decide +kernel
theorem d_PA_afterMove_47 : decode c_PA_afterMove 47 = .ok (.invokestatic 69, 3) := by decide +kernel
theorem d_PA_afterMove_50 : decode c_PA_afterMove 50 = .ok (.astore 4, 2) := by decide +kernel
theorem d_PA_afterMove_52 : decode c_PA_afterMove 52 = .ok (.aload 4, 2) := by decide +kernel
theorem d_PA_afterMove_54 : decode c_PA_afterMove 54 = .ok (.ifnonnull 7, 3) := by decide +kernel
theorem d_PA_afterMove_57 : decode c_PA_afterMove 57 = .ok (.aconst_null, 1) := by decide +kernel
theorem d_PA_afterMove_58 : decode c_PA_afterMove 58 = .ok (.goto 11, 3) := by decide +kernel
theorem d_PA_afterMove_61 : decode c_PA_afterMove 61 = .ok (.aload 4, 2) := by decide +kernel
theorem d_PA_afterMove_63 : decode c_PA_afterMove 63 = .ok (.aload_n 2, 1) := by decide +kernel
theorem d_PA_afterMove_64 : decode c_PA_afterMove 64 = .ok (.iconst 1, 1) := by decide +kernel
theorem d_PA_afterMove_65 : decode c_PA_afterMove 65 = .ok (.aload_n 3, 1) := by decide +kernel
theorem d_PA_afterMove_66 : decode c_PA_afterMove 66 = .ok (.invokestatic 69, 3) := by decide +kernel
theorem d_PA_afterMove_69 : decode c_PA_afterMove 69 = .ok (.areturn, 1) := by decide +kernel
def ws_PA_afterMove : List Cond := .code y_PA_afterMove c_PA_afterMove 5 (some (.object "PatchStore$Value")) :: TBL
theorem d_PT_target_0 : decode c_PT_target 0 = .ok (.aload_n 1, 1) := by decide +kernel
theorem d_PT_target_1 : decode c_PT_target 1 = .ok (.astore_n 2, 1) := by decide +kernel
theorem d_PT_target_2 : decode c_PT_target 2 = .ok (.aload_n 0, 1) := by decide +kernel
theorem d_PT_target_3 : decode c_PT_target 3 = .ok (.astore_n 3, 1) := by decide +kernel
theorem d_PT_target_4 : decode c_PT_target 4 = .ok (.aload_n 3, 1) := by decide +kernel
theorem d_PT_target_5 : decode c_PT_target 5 = .ok (.getfield 23, 3) := by decide +kernel
theorem d_PT_target_8 : decode c_PT_target 8 = .ok (.ifnull 38, 3) := by decide +kernel
theorem d_PT_target_11 : decode c_PT_target 11 = .ok (.aload_n 3, 1) := by decide +kernel
theorem d_PT_target_12 : decode c_PT_target 12 = .ok (.aload_n 2, 1) := by decide +kernel
theorem d_PT_target_13 : decode c_PT_target 13 = .ok (.invokevirtual 92, 3) := by decide +kernel
theorem d_PT_target_16 : decode c_PT_target 16 = .ok (.istore 4, 2) := by decide +kernel
theorem d_PT_target_18 : decode c_PT_target 18 = .ok (.iload 4, 2) := by decide +kernel
theorem d_PT_target_20 : decode c_PT_target 20 = .ok (.ifCond .ge 5, 3) := by decide +kernel
theorem d_PT_target_23 : decode c_PT_target 23 = .ok (.aconst_null, 1) := by decide +kernel
theorem d_PT_target_24 : decode c_PT_target 24 = .ok (.areturn, 1) := by decide +kernel
theorem d_PT_target_25 : decode c_PT_target 25 = .ok (.aload_n 2, 1) := by decide +kernel
theorem d_PT_target_26 : decode c_PT_target 26 = .ok (.getfield 96, 3) := by decide +kernel
theorem d_PT_target_29 : decode c_PT_target 29 = .ok (.iload 4, 2) := by decide +kernel
theorem d_PT_target_31 : decode c_PT_target 31 = .ok (.invokevirtual 100, 3) := by decide +kernel
theorem d_PT_target_34 : decode c_PT_target 34 = .ok (.checkcast 28, 3) := by decide +kernel
theorem d_PT_target_37 : decode c_PT_target 37 = .ok (.astore_n 2, 1) := by decide +kernel
theorem d_PT_target_38 : decode c_PT_target 38 = .ok (.aload_n 3, 1) := by decide +kernel
theorem d_PT_target_39 : decode c_PT_target 39 = .ok (.getfield 23, 3) := by decide +kernel
theorem d_PT_target_42 : decode c_PT_target 42 = .ok (.astore_n 3, 1) := by decide +kernel
theorem d_PT_target_43 : decode c_PT_target 43 = .ok (.goto (-39), 3) := by decide +kernel
theorem d_PT_target_46 : decode c_PT_target 46 = .ok (.aload_n 2, 1) := by decide +kernel
theorem d_PT_target_47 : decode c_PT_target 47 = .ok (.areturn, 1) := by decide +kernel
def ws_PT_target : List Cond := .code y_PT_target c_PT_target 5 (some (.object "PatchStore$Value")) :: TBL
theorem d_PT_firstPlaceIn_0 : decode c_PT_firstPlaceIn 0 = .ok (.aload_n 1, 1) := by decide +kernel
theorem d_PT_firstPlaceIn_1 : decode c_PT_firstPlaceIn 1 = .ok (.getfield 27, 3) := by decide +kernel
theorem d_PT_firstPlaceIn_4 : decode c_PT_firstPlaceIn 4 = .ok (.iconst 4, 1) := by decide +kernel
theorem d_PT_firstPlaceIn_5 : decode c_PT_firstPlaceIn 5 = .ok (.if_icmp .ne 14, 3) := by decide +kernel
theorem d_PT_firstPlaceIn_8 : decode c_PT_firstPlaceIn 8 = .ok (.aload_n 1, 1) := by decide +kernel
theorem d_PT_firstPlaceIn_9 : decode c_PT_firstPlaceIn 9 = .ok (.aload_n 0, 1) := by decide +kernel
theorem d_PT_firstPlaceIn_10 : decode c_PT_firstPlaceIn 10 = .ok (.getfield 9, 3) := by decide +kernel
theorem d_PT_firstPlaceIn_13 : decode c_PT_firstPlaceIn 13 = .ok (.invokevirtual 86, 3) := by decide +kernel
theorem d_PT_firstPlaceIn_16 : decode c_PT_firstPlaceIn 16 = .ok (.goto 11, 3) := by decide +kernel
theorem d_PT_firstPlaceIn_19 : decode c_PT_firstPlaceIn 19 = .ok (.aload_n 1, 1) := by decide +kernel
theorem d_PT_firstPlaceIn_20 : decode c_PT_firstPlaceIn 20 = .ok (.aload_n 0, 1) := by decide +kernel
theorem d_PT_firstPlaceIn_21 : decode c_PT_firstPlaceIn 21 = .ok (.getfield 19, 3) := by decide +kernel
theorem d_PT_firstPlaceIn_24 : decode c_PT_firstPlaceIn 24 = .ok (.invokevirtual 89, 3) := by decide +kernel
theorem d_PT_firstPlaceIn_27 : decode c_PT_firstPlaceIn 27 = .ok (.ireturn, 1) := by decide +kernel
def ws_PT_firstPlaceIn : List Cond := .code y_PT_firstPlaceIn c_PT_firstPlaceIn 2 (some .int) :: TBL
theorem d_VA_placeOfElement_0 : decode c_VA_placeOfElement 0 = .ok (.aload_n 0, 1) := by decide +kernel
theorem d_VA_placeOfElement_1 : decode c_VA_placeOfElement 1 = .ok (.getfield 9, 3) := by decide +kernel
theorem d_VA_placeOfElement_4 : decode c_VA_placeOfElement 4 = .ok (.iconst 3, 1) := by decide +kernel
theorem d_VA_placeOfElement_5 : decode c_VA_placeOfElement 5 = .ok (.if_icmp .ne 22, 3) := by decide +kernel
theorem d_VA_placeOfElement_8 : decode c_VA_placeOfElement 8 = .ok (.iload_n 1, 1) := by decide +kernel
theorem d_VA_placeOfElement_9 : decode c_VA_placeOfElement 9 = .ok (.ifCond .lt 18, 3) := by decide +kernel
theorem d_VA_placeOfElement_12 : decode c_VA_placeOfElement 12 = .ok (.iload_n 1, 1) := by decide +kernel
theorem d_VA_placeOfElement_13 : decode c_VA_placeOfElement 13 = .ok (.aload_n 0, 1) := by decide +kernel
theorem d_VA_placeOfElement_14 : decode c_VA_placeOfElement 14 = .ok (.getfield 31, 3) := by decide +kernel
theorem d_VA_placeOfElement_17 : decode c_VA_placeOfElement 17 = .ok (.invokevirtual 41, 3) := by decide +kernel
theorem d_VA_placeOfElement_20 : decode c_VA_placeOfElement 20 = .ok (.if_icmp .ge 7, 3) := by decide +kernel
theorem d_VA_placeOfElement_23 : decode c_VA_placeOfElement 23 = .ok (.iload_n 1, 1) := by decide +kernel
theorem d_VA_placeOfElement_24 : decode c_VA_placeOfElement 24 = .ok (.goto 4, 3) := by decide +kernel
theorem d_VA_placeOfElement_27 : decode c_VA_placeOfElement 27 = .ok (.iconst (-1), 1) := by decide +kernel
theorem d_VA_placeOfElement_28 : decode c_VA_placeOfElement 28 = .ok (.ireturn, 1) := by decide +kernel
def ws_VA_placeOfElement : List Cond := .code y_VA_placeOfElement c_VA_placeOfElement 2 (some .int) :: TBL
theorem d_PT_beginsWith_0 : decode c_PT_beginsWith 0 = .ok (.aload_n 0, 1) := by decide +kernel
theorem d_PT_beginsWith_1 : decode c_PT_beginsWith 1 = .ok (.astore_n 2, 1) := by decide +kernel
theorem d_PT_beginsWith_2 : decode c_PT_beginsWith 2 = .ok (.aload_n 1, 1) := by decide +kernel
theorem d_PT_beginsWith_3 : decode c_PT_beginsWith 3 = .ok (.astore_n 3, 1) := by decide +kernel
theorem d_PT_beginsWith_4 : decode c_PT_beginsWith 4 = .ok (.aload_n 3, 1) := by decide +kernel
theorem d_PT_beginsWith_5 : decode c_PT_beginsWith 5 = .ok (.getfield 23, 3) := by decide +kernel
theorem d_PT_beginsWith_8 : decode c_PT_beginsWith 8 = .ok (.ifnull 39, 3) := by decide +kernel
theorem d_PT_beginsWith_11 : decode c_PT_beginsWith 11 = .ok (.aload_n 2, 1) := by decide +kernel
theorem d_PT_beginsWith_12 : decode c_PT_beginsWith 12 = .ok (.getfield 23, 3) := by decide +kernel
theorem d_PT_beginsWith_15 : decode c_PT_beginsWith 15 = .ok (.ifnull 17, 3) := by decide +kernel
theorem d_PT_beginsWith_18 : decode c_PT_beginsWith 18 = .ok (.aload_n 2, 1) := by decide +kernel
theorem d_PT_beginsWith_19 : decode c_PT_beginsWith 19 = .ok (.getfield 9, 3) := by decide +kernel
theorem d_PT_beginsWith_22 : decode c_PT_beginsWith 22 = .ok (.aload_n 3, 1) := by decide +kernel
theorem d_PT_beginsWith_23 : decode c_PT_beginsWith 23 = .ok (.getfield 9, 3) := by decide +kernel
theorem d_PT_beginsWith_26 : decode c_PT_beginsWith 26 = .ok (.invokevirtual 82, 3) := by decide +kernel
theorem d_PT_beginsWith_29 : decode c_PT_beginsWith 29 = .ok (.ifCond .ne 5, 3) := by decide +kernel
theorem d_PT_beginsWith_32 : decode c_PT_beginsWith 32 = .ok (.iconst 0, 1) := by decide +kernel
theorem d_PT_beginsWith_33 : decode c_PT_beginsWith 33 = .ok (.ireturn, 1) := by decide +kernel
theorem d_PT_beginsWith_34 : decode c_PT_beginsWith 34 = .ok (.aload_n 2, 1) := by decide +kernel
theorem d_PT_beginsWith_35 : decode c_PT_beginsWith 35 = .ok (.getfield 23, 3) := by decide +kernel
theorem d_PT_beginsWith_38 : decode c_PT_beginsWith 38 = .ok (.astore_n 2, 1) := by decide +kernel
theorem d_PT_beginsWith_39 : decode c_PT_beginsWith 39 = .ok (.aload_n 3, 1) := by decide +kernel
theorem d_PT_beginsWith_40 : decode c_PT_beginsWith 40 = .ok (.getfield 23, 3) := by decide +kernel
theorem d_PT_beginsWith_43 : decode c_PT_beginsWith 43 = .ok (.astore_n 3, 1) := by decide +kernel
theorem d_PT_beginsWith_44 : decode c_PT_beginsWith 44 = .ok (.goto (-40), 3) := by decide +kernel
theorem d_PT_beginsWith_47 : decode c_PT_beginsWith 47 = .ok (.iconst 1, 1) := by decide +kernel
theorem d_PT_beginsWith_48 : decode c_PT_beginsWith 48 = .ok (.ireturn, 1) := by decide +kernel
def ws_PT_beginsWith : List Cond := .code y_PT_beginsWith c_PT_beginsWith 4 (some .boolean) :: TBL
theorem d_PA_edited_0 : decode c_PA_edited 0 = .ok (.aload_n 1, 1) := by decide +kernel
theorem d_PA_edited_1 : decode c_PA_edited 1 = .ok (.invokevirtual 88, 3) := by decide +kernel
theorem d_PA_edited_4 : decode c_PA_edited 4 = .ok (.ifCond .eq 5, 3) := by decide +kernel
theorem d_PA_edited_7 : decode c_PA_edited 7 = .ok (.aload_n 3, 1) := by decide +kernel
theorem d_PA_edited_8 : decode c_PA_edited 8 = .ok (.areturn, 1) := by decide +kernel
theorem d_PA_edited_9 : decode c_PA_edited 9 = .ok (.iload_n 2, 1) := by decide +kernel
theorem d_PA_edited_10 : decode c_PA_edited 10 = .ok (.iconst 1, 1) := by decide +kernel
theorem d_PA_edited_11 : decode c_PA_edited 11 = .ok (.if_icmp .ne 14, 3) := by decide +kernel
theorem d_PA_edited_14 : decode c_PA_edited 14 = .ok (.aload_n 1, 1) := by decide +kernel
theorem d_PA_edited_15 : decode c_PA_edited 15 = .ok (.invokevirtual 92, 3) := by decide +kernel
theorem d_PA_edited_18 : decode c_PA_edited 18 = .ok (.ifCond .eq 7, 3) := by decide +kernel
theorem d_PA_edited_21 : decode c_PA_edited 21 = .ok (.iconst 1, 1) := by decide +kernel
theorem d_PA_edited_22 : decode c_PA_edited 22 = .ok (.goto 4, 3) := by decide +kernel
theorem d_PA_edited_25 : decode c_PA_edited 25 = .ok (.iconst 0, 1) := by decide +kernel
theorem d_PA_edited_26 : decode c_PA_edited 26 = .ok (.istore 4, 2) := by decide +kernel
theorem d_PA_edited_28 : decode c_PA_edited 28 = .ok (.iload 4, 2) := by decide +kernel
theorem d_PA_edited_30 : decode c_PA_edited 30 = .ok (.ifCond .eq 11, 3) := by decide +kernel
theorem d_PA_edited_33 : decode c_PA_edited 33 = .ok (.aload_n 0, 1) := by decide +kernel
theorem d_PA_edited_34 : decode c_PA_edited 34 = .ok (.aload_n 1, 1) := by decide +kernel
theorem d_PA_edited_35 : decode c_PA_edited 35 = .ok (.invokestatic 95, 3) := by decide +kernel
theorem d_PA_edited_38 : decode c_PA_edited 38 = .ok (.goto 8, 3) := by decide +kernel
theorem d_PA_edited_41 : decode c_PA_edited 41 = .ok (.aload_n 1, 1) := by decide +kernel
theorem d_PA_edited_42 : decode c_PA_edited 42 = .ok (.aload_n 0, 1) := by decide +kernel
theorem d_PA_edited_43 : decode c_PA_edited 43 = .ok (.invokevirtual 99, 3) := by decide +kernel
theorem d_PA_edited_46 : decode c_PA_edited 46 = .ok (.istore 5, 2) := by decide +kernel
theorem d_PA_edited_48 : decode c_PA_edited 48 = .ok (.iload 5, 2) := by decide +kernel
theorem d_PA_edited_50 : decode c_PA_edited 50 = .ok (.ifCond .ge 5, 3) := by decide +kernel
theorem d_PA_edited_53 : decode c_PA_edited 53 = .ok (.aconst_null, 1) := by decide +kernel
theorem d_PA_edited_54 : decode c_PA_edited 54 = .ok (.areturn, 1) := by decide +kernel
theorem d_PA_edited_55 : decode c_PA_edited 55 = .ok (.iload 4, 2) := by decide +kernel
theorem d_PA_edited_57 : decode c_PA_edited 57 = .ok (.ifCond .eq 39, 3) := by decide +kernel
theorem d_PA_edited_60 : decode c_PA_edited 60 = .ok (.aload_n 0, 1) := by decide +kernel
theorem d_PA_edited_61 : decode c_PA_edited 61 = .ok (.getfield 103, 3) := by decide +kernel
theorem d_PA_edited_64 : decode c_PA_edited 64 = .ok (.iconst 3, 1) := by decide +kernel
theorem d_PA_edited_65 : decode c_PA_edited 65 = .ok (.if_icmp .eq 15, 3) := by decide +kernel
theorem d_PA_edited_68 : decode c_PA_edited 68 = .ok (.iload 5, 2) := by decide +kernel
theorem d_PA_edited_70 : decode c_PA_edited 70 = .ok (.aload_n 0, 1) := by decide +kernel
theorem d_PA_edited_71 : decode c_PA_edited 71 = .ok (.getfield 104, 3) := by decide +kernel
theorem d_PA_edited_74 : decode c_PA_edited 74 = .ok (.invokevirtual 25, 3) := by decide +kernel
theorem d_PA_edited_77 : decode c_PA_edited 77 = .ok (.if_icmp .ne 19, 3) := by decide +kernel
theorem d_PA_edited_80 : decode c_PA_edited 80 = .ok (.aload_n 0, 1) := by decide +kernel
theorem d_PA_edited_81 : decode c_PA_edited 81 = .ok (.iload 5, 2) := by decide +kernel
theorem d_PA_edited_83 : decode c_PA_edited 83 = .ok (.iconst 0, 1) := by decide +kernel
theorem d_PA_edited_84 : decode c_PA_edited 84 = .ok (.aload_n 3, 1) := by decide +kernel
theorem d_PA_edited_85 : decode c_PA_edited 85 = .ok (.aload_n 1, 1) := by decide +kernel
theorem d_PA_edited_86 : decode c_PA_edited 86 = .ok (.getfield 108, 3) := by decide +kernel
theorem d_PA_edited_89 : decode c_PA_edited 89 = .ok (.invokevirtual 112, 3) := by decide +kernel
theorem d_PA_edited_92 : decode c_PA_edited 92 = .ok (.invokevirtual 116, 3) := by decide +kernel
theorem d_PA_edited_95 : decode c_PA_edited 95 = .ok (.areturn, 1) := by decide +kernel
theorem d_PA_edited_96 : decode c_PA_edited 96 = .ok (.iload_n 2, 1) := by decide +kernel
theorem d_PA_edited_97 : decode c_PA_edited 97 = .ok (.iconst 2, 1) := by decide +kernel
theorem d_PA_edited_98 : decode c_PA_edited 98 = .ok (.if_icmp .ne 19, 3) := by decide +kernel
theorem d_PA_edited_101 : decode c_PA_edited 101 = .ok (.aload_n 1, 1) := by decide +kernel
theorem d_PA_edited_102 : decode c_PA_edited 102 = .ok (.invokevirtual 92, 3) := by decide +kernel
theorem d_PA_edited_105 : decode c_PA_edited 105 = .ok (.ifCond .eq 12, 3) := by decide +kernel
theorem d_PA_edited_108 : decode c_PA_edited 108 = .ok (.aload_n 0, 1) := by decide +kernel
theorem d_PA_edited_109 : decode c_PA_edited 109 = .ok (.iload 5, 2) := by decide +kernel
theorem d_PA_edited_111 : decode c_PA_edited 111 = .ok (.iconst 1, 1) := by decide +kernel
theorem d_PA_edited_112 : decode c_PA_edited 112 = .ok (.aconst_null, 1) := by decide +kernel
theorem d_PA_edited_113 : decode c_PA_edited 113 = .ok (.invokevirtual 116, 3) := by decide +kernel
theorem d_PA_edited_116 : decode c_PA_edited 116 = .ok (.areturn, 1) := by decide +kernel
theorem d_PA_edited_117 : decode c_PA_edited 117 = .ok (.aload_n 0, 1) := by decide +kernel
theorem d_PA_edited_118 : decode c_PA_edited 118 = .ok (.getfield 104, 3) := by decide +kernel
theorem d_PA_edited_121 : decode c_PA_edited 121 = .ok (.iload 5, 2) := by decide +kernel
theorem d_PA_edited_123 : decode c_PA_edited 123 = .ok (.invokevirtual 31, 3) := by decide +kernel
theorem d_PA_edited_126 : decode c_PA_edited 126 = .ok (.checkcast 42, 3) := by decide +kernel
theorem d_PA_edited_129 : decode c_PA_edited 129 = .ok (.astore 6, 2) := by decide +kernel
theorem d_PA_edited_131 : decode c_PA_edited 131 = .ok (.aload 6, 2) := by decide +kernel
theorem d_PA_edited_133 : decode c_PA_edited 133 = .ok (.aload_n 1, 1) := by decide +kernel
theorem d_PA_edited_134 : decode c_PA_edited 134 = .ok (.getfield 120, 3) := by decide +kernel
theorem d_PA_edited_137 : decode c_PA_edited 137 = .ok (.iload_n 2, 1) := by decide +kernel
theorem d_PA_edited_138 : decode c_PA_edited 138 = .ok (.aload_n 3, 1) := by decide +kernel
theorem d_PA_edited_139 : decode c_PA_edited 139 = .ok (.invokestatic 69, 3) := by decide +kernel
theorem d_PA_edited_142 : decode c_PA_edited 142 = .ok (.astore 7, 2) := by decide +kernel
theorem d_PA_edited_144 : decode c_PA_edited 144 = .ok (.aload 7, 2) := by decide +kernel
theorem d_PA_edited_146 : decode c_PA_edited 146 = .ok (.ifnonnull 7, 3) := by decide +kernel
theorem d_PA_edited_149 : decode c_PA_edited 149 = .ok (.aconst_null, 1) := by decide +kernel
theorem d_PA_edited_150 : decode c_PA_edited 150 = .ok (.goto 20, 3) := by decide +kernel
theorem d_PA_edited_153 : decode c_PA_edited 153 = .ok (.aload_n 0, 1) := by decide +kernel
theorem d_PA_edited_154 : decode c_PA_edited 154 = .ok (.iload 5, 2) := by decide +kernel
theorem d_PA_edited_156 : decode c_PA_edited 156 = .ok (.iconst 1, 1) := by decide +kernel
theorem d_PA_edited_157 : decode c_PA_edited 157 = .ok (.aload 7, 2) := by decide +kernel
theorem d_PA_edited_159 : decode c_PA_edited 159 = .ok (.aload 6, 2) := by decide +kernel
theorem d_PA_edited_161 : decode c_PA_edited 161 = .ok (.getfield 123, 3) := by decide +kernel
theorem d_PA_edited_164 : decode c_PA_edited 164 = .ok (.invokevirtual 112, 3) := by decide +kernel
theorem d_PA_edited_167 : decode c_PA_edited 167 = .ok (.invokevirtual 116, 3) := by decide +kernel
theorem d_PA_edited_170 : decode c_PA_edited 170 = .ok (.areturn, 1) := by decide +kernel
def ws_PA_edited : List Cond := .code y_PA_edited c_PA_edited 8 (some (.object "PatchStore$Value")) :: TBL
theorem d_PT_hasNoStep_0 : decode c_PT_hasNoStep 0 = .ok (.aload_n 0, 1) := by decide +kernel
theorem d_PT_hasNoStep_1 : decode c_PT_hasNoStep 1 = .ok (.getfield 23, 3) := by decide +kernel
theorem d_PT_hasNoStep_4 : decode c_PT_hasNoStep 4 = .ok (.ifnonnull 7, 3) := by decide +kernel
theorem d_PT_hasNoStep_7 : decode c_PT_hasNoStep 7 = .ok (.iconst 1, 1) := by decide +kernel
theorem d_PT_hasNoStep_8 : decode c_PT_hasNoStep 8 = .ok (.goto 4, 3) := by decide +kernel
theorem d_PT_hasNoStep_11 : decode c_PT_hasNoStep 11 = .ok (.iconst 0, 1) := by decide +kernel
theorem d_PT_hasNoStep_12 : decode c_PT_hasNoStep 12 = .ok (.ireturn, 1) := by decide +kernel
def ws_PT_hasNoStep : List Cond := .code y_PT_hasNoStep c_PT_hasNoStep 1 (some .boolean) :: TBL
theorem d_PT_hasOneStep_0 : decode c_PT_hasOneStep 0 = .ok (.aload_n 0, 1) := by decide +kernel
theorem d_PT_hasOneStep_1 : decode c_PT_hasOneStep 1 = .ok (.getfield 23, 3) := by decide +kernel
theorem d_PT_hasOneStep_4 : decode c_PT_hasOneStep 4 = .ok (.ifnull 17, 3) := by decide +kernel
theorem d_PT_hasOneStep_7 : decode c_PT_hasOneStep 7 = .ok (.aload_n 0, 1) := by decide +kernel
theorem d_PT_hasOneStep_8 : decode c_PT_hasOneStep 8 = .ok (.getfield 23, 3) := by decide +kernel
theorem d_PT_hasOneStep_11 : decode c_PT_hasOneStep 11 = .ok (.getfield 23, 3) := by decide +kernel
theorem d_PT_hasOneStep_14 : decode c_PT_hasOneStep 14 = .ok (.ifnonnull 7, 3) := by decide +kernel
theorem d_PT_hasOneStep_17 : decode c_PT_hasOneStep 17 = .ok (.iconst 1, 1) := by decide +kernel
theorem d_PT_hasOneStep_18 : decode c_PT_hasOneStep 18 = .ok (.goto 4, 3) := by decide +kernel
theorem d_PT_hasOneStep_21 : decode c_PT_hasOneStep 21 = .ok (.iconst 0, 1) := by decide +kernel
theorem d_PT_hasOneStep_22 : decode c_PT_hasOneStep 22 = .ok (.ireturn, 1) := by decide +kernel
def ws_PT_hasOneStep : List Cond := .code y_PT_hasOneStep c_PT_hasOneStep 1 (some .boolean) :: TBL
theorem d_PA_placeToAdd_0 : decode c_PA_placeToAdd 0 = .ok (.aload_n 0, 1) := by decide +kernel
theorem d_PA_placeToAdd_1 : decode c_PA_placeToAdd 1 = .ok (.getfield 103, 3) := by decide +kernel
theorem d_PA_placeToAdd_4 : decode c_PA_placeToAdd 4 = .ok (.iconst 4, 1) := by decide +kernel
theorem d_PA_placeToAdd_5 : decode c_PA_placeToAdd 5 = .ok (.if_icmp .ne 28, 3) := by decide +kernel
theorem d_PA_placeToAdd_8 : decode c_PA_placeToAdd 8 = .ok (.aload_n 0, 1) := by decide +kernel
theorem d_PA_placeToAdd_9 : decode c_PA_placeToAdd 9 = .ok (.aload_n 1, 1) := by decide +kernel
theorem d_PA_placeToAdd_10 : decode c_PA_placeToAdd 10 = .ok (.getfield 108, 3) := by decide +kernel
theorem d_PA_placeToAdd_13 : decode c_PA_placeToAdd 13 = .ok (.invokevirtual 126, 3) := by decide +kernel
theorem d_PA_placeToAdd_16 : decode c_PA_placeToAdd 16 = .ok (.istore_n 2, 1) := by decide +kernel
theorem d_PA_placeToAdd_17 : decode c_PA_placeToAdd 17 = .ok (.iload_n 2, 1) := by decide +kernel
theorem d_PA_placeToAdd_18 : decode c_PA_placeToAdd 18 = .ok (.ifCond .ge 13, 3) := by decide +kernel
theorem d_PA_placeToAdd_21 : decode c_PA_placeToAdd 21 = .ok (.aload_n 0, 1) := by decide +kernel
theorem d_PA_placeToAdd_22 : decode c_PA_placeToAdd 22 = .ok (.getfield 104, 3) := by decide +kernel
theorem d_PA_placeToAdd_25 : decode c_PA_placeToAdd 25 = .ok (.invokevirtual 25, 3) := by decide +kernel
theorem d_PA_placeToAdd_28 : decode c_PA_placeToAdd 28 = .ok (.goto 4, 3) := by decide +kernel
theorem d_PA_placeToAdd_31 : decode c_PA_placeToAdd 31 = .ok (.iload_n 2, 1) := by decide +kernel
theorem d_PA_placeToAdd_32 : decode c_PA_placeToAdd 32 = .ok (.ireturn, 1) := by decide +kernel
theorem d_PA_placeToAdd_33 : decode c_PA_placeToAdd 33 = .ok (.aload_n 1, 1) := by decide +kernel
theorem d_PA_placeToAdd_34 : decode c_PA_placeToAdd 34 = .ok (.getfield 108, 3) := by decide +kernel
theorem d_PA_placeToAdd_37 : decode c_PA_placeToAdd 37 = .ok (.ldc 130, 2) := by decide +kernel
theorem d_PA_placeToAdd_39 : decode c_PA_placeToAdd 39 = .ok (.invokevirtual 132, 3) := by decide +kernel
theorem d_PA_placeToAdd_42 : decode c_PA_placeToAdd 42 = .ok (.ifCond .eq 13, 3) := by decide +kernel
theorem d_PA_placeToAdd_45 : decode c_PA_placeToAdd 45 = .ok (.aload_n 0, 1) := by decide +kernel
theorem d_PA_placeToAdd_46 : decode c_PA_placeToAdd 46 = .ok (.getfield 104, 3) := by decide +kernel
theorem d_PA_placeToAdd_49 : decode c_PA_placeToAdd 49 = .ok (.invokevirtual 25, 3) := by decide +kernel
theorem d_PA_placeToAdd_52 : decode c_PA_placeToAdd 52 = .ok (.goto 7, 3) := by decide +kernel
theorem d_PA_placeToAdd_55 : decode c_PA_placeToAdd 55 = .ok (.aload_n 1, 1) := by decide +kernel
theorem d_PA_placeToAdd_56 : decode c_PA_placeToAdd 56 = .ok (.getfield 138, 3) := by decide +kernel
theorem d_PA_placeToAdd_59 : decode c_PA_placeToAdd 59 = .ok (.istore_n 2, 1) := by decide +kernel
theorem d_PA_placeToAdd_60 : decode c_PA_placeToAdd 60 = .ok (.aload_n 0, 1) := by decide +kernel
theorem d_PA_placeToAdd_61 : decode c_PA_placeToAdd 61 = .ok (.getfield 103, 3) := by decide +kernel
theorem d_PA_placeToAdd_64 : decode c_PA_placeToAdd 64 = .ok (.iconst 3, 1) := by decide +kernel
theorem d_PA_placeToAdd_65 : decode c_PA_placeToAdd 65 = .ok (.if_icmp .ne 18, 3) := by decide +kernel
theorem d_PA_placeToAdd_68 : decode c_PA_placeToAdd 68 = .ok (.iload_n 2, 1) := by decide +kernel
theorem d_PA_placeToAdd_69 : decode c_PA_placeToAdd 69 = .ok (.aload_n 0, 1) := by decide +kernel
theorem d_PA_placeToAdd_70 : decode c_PA_placeToAdd 70 = .ok (.getfield 104, 3) := by decide +kernel
theorem d_PA_placeToAdd_73 : decode c_PA_placeToAdd 73 = .ok (.invokevirtual 25, 3) := by decide +kernel
theorem d_PA_placeToAdd_76 : decode c_PA_placeToAdd 76 = .ok (.if_icmp .gt 7, 3) := by decide +kernel
theorem d_PA_placeToAdd_79 : decode c_PA_placeToAdd 79 = .ok (.iload_n 2, 1) := by decide +kernel
theorem d_PA_placeToAdd_80 : decode c_PA_placeToAdd 80 = .ok (.goto 4, 3) := by decide +kernel
theorem d_PA_placeToAdd_83 : decode c_PA_placeToAdd 83 = .ok (.iconst (-1), 1) := by decide +kernel
theorem d_PA_placeToAdd_84 : decode c_PA_placeToAdd 84 = .ok (.ireturn, 1) := by decide +kernel
def ws_PA_placeToAdd : List Cond := .code y_PA_placeToAdd c_PA_placeToAdd 3 (some .int) :: TBL
theorem d_VA_spliced_0 : decode c_VA_spliced 0 = .ok (.new 28, 3) := by decide +kernel
theorem d_VA_spliced_3 : decode c_VA_spliced 3 = .ok (.dup, 1) := by decide +kernel
theorem d_VA_spliced_4 : decode c_VA_spliced 4 = .ok (.invokespecial 30, 3) := by decide +kernel
theorem d_VA_spliced_7 : decode c_VA_spliced 7 = .ok (.astore 4, 2) := by decide +kernel
theorem d_VA_spliced_9 : decode c_VA_spliced 9 = .ok (.iconst 0, 1) := by decide +kernel
theorem d_VA_spliced_10 : decode c_VA_spliced 10 = .ok (.istore 5, 2) := by decide +kernel
theorem d_VA_spliced_12 : decode c_VA_spliced 12 = .ok (.iload 5, 2) := by decide +kernel
theorem d_VA_spliced_14 : decode c_VA_spliced 14 = .ok (.iload_n 1, 1) := by decide +kernel
theorem d_VA_spliced_15 : decode c_VA_spliced 15 = .ok (.if_icmp .ge 27, 3) := by decide +kernel
theorem d_VA_spliced_18 : decode c_VA_spliced 18 = .ok (.aload 4, 2) := by decide +kernel
theorem d_VA_spliced_20 : decode c_VA_spliced 20 = .ok (.aload_n 0, 1) := by decide +kernel
theorem d_VA_spliced_21 : decode c_VA_spliced 21 = .ok (.getfield 31, 3) := by decide +kernel
theorem d_VA_spliced_24 : decode c_VA_spliced 24 = .ok (.iload 5, 2) := by decide +kernel
theorem d_VA_spliced_26 : decode c_VA_spliced 26 = .ok (.invokevirtual 45, 3) := by decide +kernel
theorem d_VA_spliced_29 : decode c_VA_spliced 29 = .ok (.checkcast 10, 3) := by decide +kernel
theorem d_VA_spliced_32 : decode c_VA_spliced 32 = .ok (.invokevirtual 68, 3) := by decide +kernel
theorem d_VA_spliced_35 : decode c_VA_spliced 35 = .ok (.pop, 1) := by decide +kernel
theorem d_VA_spliced_36 : decode c_VA_spliced 36 = .ok (.iinc 5 1, 3) := by decide +kernel
theorem d_VA_spliced_39 : decode c_VA_spliced 39 = .ok (.goto (-27), 3) := by decide +kernel
theorem d_VA_spliced_42 : decode c_VA_spliced 42 = .ok (.aload_n 3, 1) := by decide +kernel
theorem d_VA_spliced_43 : decode c_VA_spliced 43 = .ok (.ifnull 10, 3) := by decide +kernel
theorem d_VA_spliced_46 : decode c_VA_spliced 46 = .ok (.aload 4, 2) := by decide +kernel
theorem d_VA_spliced_48 : decode c_VA_spliced 48 = .ok (.aload_n 3, 1) := by decide +kernel
theorem d_VA_spliced_49 : decode c_VA_spliced 49 = .ok (.invokevirtual 68, 3) := by decide +kernel
theorem d_VA_spliced_52 : decode c_VA_spliced 52 = .ok (.pop, 1) := by decide +kernel
theorem d_VA_spliced_53 : decode c_VA_spliced 53 = .ok (.iload_n 1, 1) := by decide +kernel
theorem d_VA_spliced_54 : decode c_VA_spliced 54 = .ok (.iload_n 2, 1) := by decide +kernel
theorem d_VA_spliced_55 : decode c_VA_spliced 55 = .ok (.iadd, 1) := by decide +kernel
theorem d_VA_spliced_56 : decode c_VA_spliced 56 = .ok (.istore 5, 2) := by decide +kernel
theorem d_VA_spliced_58 : decode c_VA_spliced 58 = .ok (.iload 5, 2) := by decide +kernel
theorem d_VA_spliced_60 : decode c_VA_spliced 60 = .ok (.aload_n 0, 1) := by decide +kernel
theorem d_VA_spliced_61 : decode c_VA_spliced 61 = .ok (.getfield 31, 3) := by decide +kernel
theorem d_VA_spliced_64 : decode c_VA_spliced 64 = .ok (.invokevirtual 41, 3) := by decide +kernel
theorem d_VA_spliced_67 : decode c_VA_spliced 67 = .ok (.if_icmp .ge 27, 3) := by decide +kernel
theorem d_VA_spliced_70 : decode c_VA_spliced 70 = .ok (.aload 4, 2) := by decide +kernel
theorem d_VA_spliced_72 : decode c_VA_spliced 72 = .ok (.aload_n 0, 1) := by decide +kernel
theorem d_VA_spliced_73 : decode c_VA_spliced 73 = .ok (.getfield 31, 3) := by decide +kernel
theorem d_VA_spliced_76 : decode c_VA_spliced 76 = .ok (.iload 5, 2) := by decide +kernel
theorem d_VA_spliced_78 : decode c_VA_spliced 78 = .ok (.invokevirtual 45, 3) := by decide +kernel
theorem d_VA_spliced_81 : decode c_VA_spliced 81 = .ok (.checkcast 10, 3) := by decide +kernel
theorem d_VA_spliced_84 : decode c_VA_spliced 84 = .ok (.invokevirtual 68, 3) := by decide +kernel
theorem d_VA_spliced_87 : decode c_VA_spliced 87 = .ok (.pop, 1) := by decide +kernel
theorem d_VA_spliced_88 : decode c_VA_spliced 88 = .ok (.iinc 5 1, 3) := by decide +kernel
theorem d_VA_spliced_91 : decode c_VA_spliced 91 = .ok (.goto (-33), 3) := by decide +kernel
theorem d_VA_spliced_94 : decode c_VA_spliced 94 = .ok (.new 10, 3) := by decide +kernel
theorem d_VA_spliced_97 : decode c_VA_spliced 97 = .ok (.dup, 1) := by decide +kernel
theorem d_VA_spliced_98 : decode c_VA_spliced 98 = .ok (.aload_n 0, 1) := by decide +kernel
theorem d_VA_spliced_99 : decode c_VA_spliced 99 = .ok (.getfield 9, 3) := by decide +kernel
theorem d_VA_spliced_102 : decode c_VA_spliced 102 = .ok (.aload 4, 2) := by decide +kernel
theorem d_VA_spliced_104 : decode c_VA_spliced 104 = .ok (.aload_n 0, 1) := by decide +kernel
theorem d_VA_spliced_105 : decode c_VA_spliced 105 = .ok (.getfield 25, 3) := by decide +kernel
theorem d_VA_spliced_108 : decode c_VA_spliced 108 = .ok (.invokespecial 71, 3) := by decide +kernel
theorem d_VA_spliced_111 : decode c_VA_spliced 111 = .ok (.areturn, 1) := by decide +kernel
def ws_VA_spliced : List Cond := .code y_VA_spliced c_VA_spliced 6 (some (.object "PatchStore$Value")) :: TBL
theorem d_PA_afterTest_0 : decode c_PA_afterTest 0 = .ok (.aload_n 1, 1) := by decide +kernel
theorem d_PA_afterTest_1 : decode c_PA_afterTest 1 = .ok (.ifnonnull 5, 3) := by decide +kernel
theorem d_PA_afterTest_4 : decode c_PA_afterTest 4 = .ok (.aconst_null, 1) := by decide +kernel
theorem d_PA_afterTest_5 : decode c_PA_afterTest 5 = .ok (.areturn, 1) := by decide +kernel
theorem d_PA_afterTest_6 : decode c_PA_afterTest 6 = .ok (.aload_n 1, 1) := by decide +kernel
theorem d_PA_afterTest_7 : decode c_PA_afterTest 7 = .ok (.aload_n 2, 1) := by decide +kernel
theorem d_PA_afterTest_8 : decode c_PA_afterTest 8 = .ok (.invokestatic 80, 3) := by decide +kernel
theorem d_PA_afterTest_11 : decode c_PA_afterTest 11 = .ok (.ifCond .ne 11, 3) := by decide +kernel
theorem d_PA_afterTest_14 : decode c_PA_afterTest 14 = .ok (.aload_n 0, 1) := by decide +kernel
theorem d_PA_afterTest_15 : decode c_PA_afterTest 15 = .ok (.bipush 7, 2) := by decide +kernel
theorem d_PA_afterTest_17 : decode c_PA_afterTest 17 = .ok (.putfield 9, 3) := by decide +kernel
theorem d_PA_afterTest_20 : decode c_PA_afterTest 20 = .ok (.aconst_null, 1) := by decide +kernel
theorem d_PA_afterTest_21 : decode c_PA_afterTest 21 = .ok (.areturn, 1) := by decide +kernel
theorem d_PA_afterTest_22 : decode c_PA_afterTest 22 = .ok (.aload_n 0, 1) := by decide +kernel
theorem d_PA_afterTest_23 : decode c_PA_afterTest 23 = .ok (.getfield 15, 3) := by decide +kernel
theorem d_PA_afterTest_26 : decode c_PA_afterTest 26 = .ok (.areturn, 1) := by decide +kernel
def ws_PA_afterTest : List Cond := .code y_PA_afterTest c_PA_afterTest 3 (some (.object "PatchStore$Value")) :: TBL
theorem d_VA_same_0 : decode c_VA_same 0 = .ok (.aload_n 0, 1) := by decide +kernel
theorem d_VA_same_1 : decode c_VA_same 1 = .ok (.getfield 9, 3) := by decide +kernel
theorem d_VA_same_4 : decode c_VA_same 4 = .ok (.aload_n 1, 1) := by decide +kernel
theorem d_VA_same_5 : decode c_VA_same 5 = .ok (.getfield 9, 3) := by decide +kernel
theorem d_VA_same_8 : decode c_VA_same 8 = .ok (.if_icmp .ne 34, 3) := by decide +kernel
theorem d_VA_same_11 : decode c_VA_same 11 = .ok (.aload_n 0, 1) := by decide +kernel
theorem d_VA_same_12 : decode c_VA_same 12 = .ok (.getfield 15, 3) := by decide +kernel
theorem d_VA_same_15 : decode c_VA_same 15 = .ok (.aload_n 1, 1) := by decide +kernel
theorem d_VA_same_16 : decode c_VA_same 16 = .ok (.getfield 15, 3) := by decide +kernel
theorem d_VA_same_19 : decode c_VA_same 19 = .ok (.invokevirtual 58, 3) := by decide +kernel
theorem d_VA_same_22 : decode c_VA_same 22 = .ok (.ifCond .eq 20, 3) := by decide +kernel
theorem d_VA_same_25 : decode c_VA_same 25 = .ok (.aload_n 0, 1) := by decide +kernel
theorem d_VA_same_26 : decode c_VA_same 26 = .ok (.getfield 31, 3) := by decide +kernel
theorem d_VA_same_29 : decode c_VA_same 29 = .ok (.invokevirtual 41, 3) := by decide +kernel
theorem d_VA_same_32 : decode c_VA_same 32 = .ok (.aload_n 1, 1) := by decide +kernel
theorem d_VA_same_33 : decode c_VA_same 33 = .ok (.getfield 31, 3) := by decide +kernel
theorem d_VA_same_36 : decode c_VA_same 36 = .ok (.invokevirtual 41, 3) := by decide +kernel
theorem d_VA_same_39 : decode c_VA_same 39 = .ok (.if_icmp .eq 5, 3) := by decide +kernel
theorem d_VA_same_42 : decode c_VA_same 42 = .ok (.iconst 0, 1) := by decide +kernel
theorem d_VA_same_43 : decode c_VA_same 43 = .ok (.ireturn, 1) := by decide +kernel
theorem d_VA_same_44 : decode c_VA_same 44 = .ok (.iconst 0, 1) := by decide +kernel
theorem d_VA_same_45 : decode c_VA_same 45 = .ok (.istore_n 2, 1) := by decide +kernel
theorem d_VA_same_46 : decode c_VA_same 46 = .ok (.iload_n 2, 1) := by decide +kernel
theorem d_VA_same_47 : decode c_VA_same 47 = .ok (.aload_n 0, 1) := by decide +kernel
theorem d_VA_same_48 : decode c_VA_same 48 = .ok (.getfield 31, 3) := by decide +kernel
theorem d_VA_same_51 : decode c_VA_same 51 = .ok (.invokevirtual 41, 3) := by decide +kernel
theorem d_VA_same_54 : decode c_VA_same 54 = .ok (.if_icmp .ge 69, 3) := by decide +kernel
theorem d_VA_same_57 : decode c_VA_same 57 = .ok (.aload_n 0, 1) := by decide +kernel
theorem d_VA_same_58 : decode c_VA_same 58 = .ok (.getfield 31, 3) := by decide +kernel
theorem d_VA_same_61 : decode c_VA_same 61 = .ok (.iload_n 2, 1) := by decide +kernel
theorem d_VA_same_62 : decode c_VA_same 62 = .ok (.invokevirtual 45, 3) := by decide +kernel
theorem d_VA_same_65 : decode c_VA_same 65 = .ok (.checkcast 10, 3) := by decide +kernel
theorem d_VA_same_68 : decode c_VA_same 68 = .ok (.astore_n 3, 1) := by decide +kernel
theorem d_VA_same_69 : decode c_VA_same 69 = .ok (.aload_n 0, 1) := by decide +kernel
theorem d_VA_same_70 : decode c_VA_same 70 = .ok (.getfield 9, 3) := by decide +kernel
theorem d_VA_same_73 : decode c_VA_same 73 = .ok (.iconst 4, 1) := by decide +kernel
theorem d_VA_same_74 : decode c_VA_same 74 = .ok (.if_icmp .ne 14, 3) := by decide +kernel
theorem d_VA_same_77 : decode c_VA_same 77 = .ok (.aload_n 1, 1) := by decide +kernel
theorem d_VA_same_78 : decode c_VA_same 78 = .ok (.aload_n 3, 1) := by decide +kernel
theorem d_VA_same_79 : decode c_VA_same 79 = .ok (.getfield 25, 3) := by decide +kernel
theorem d_VA_same_82 : decode c_VA_same 82 = .ok (.invokevirtual 64, 3) := by decide +kernel
theorem d_VA_same_85 : decode c_VA_same 85 = .ok (.goto 4, 3) := by decide +kernel
theorem d_VA_same_88 : decode c_VA_same 88 = .ok (.iload_n 2, 1) := by decide +kernel
theorem d_VA_same_89 : decode c_VA_same 89 = .ok (.istore 4, 2) := by decide +kernel
theorem d_VA_same_91 : decode c_VA_same 91 = .ok (.iload 4, 2) := by decide +kernel
theorem d_VA_same_93 : decode c_VA_same 93 = .ok (.ifCond .lt 22, 3) := by decide +kernel
theorem d_VA_same_96 : decode c_VA_same 96 = .ok (.aload_n 3, 1) := by decide +kernel
theorem d_VA_same_97 : decode c_VA_same 97 = .ok (.aload_n 1, 1) := by decide +kernel
theorem d_VA_same_98 : decode c_VA_same 98 = .ok (.getfield 31, 3) := by decide +kernel
theorem d_VA_same_101 : decode c_VA_same 101 = .ok (.iload 4, 2) := by decide +kernel
theorem d_VA_same_103 : decode c_VA_same 103 = .ok (.invokevirtual 45, 3) := by decide +kernel
theorem d_VA_same_106 : decode c_VA_same 106 = .ok (.checkcast 10, 3) := by decide +kernel
theorem d_VA_same_109 : decode c_VA_same 109 = .ok (.invokestatic 74, 3) := by decide +kernel
theorem d_VA_same_112 : decode c_VA_same 112 = .ok (.ifCond .ne 5, 3) := by decide +kernel
theorem d_VA_same_115 : decode c_VA_same 115 = .ok (.iconst 0, 1) := by decide +kernel
theorem d_VA_same_116 : decode c_VA_same 116 = .ok (.ireturn, 1) := by decide +kernel
theorem d_VA_same_117 : decode c_VA_same 117 = .ok (.iinc 2 1, 3) := by decide +kernel
theorem d_VA_same_120 : decode c_VA_same 120 = .ok (.goto (-74), 3) := by decide +kernel
theorem d_VA_same_123 : decode c_VA_same 123 = .ok (.iconst 1, 1) := by decide +kernel
theorem d_VA_same_124 : decode c_VA_same 124 = .ok (.ireturn, 1) := by decide +kernel
def ws_VA_same : List Cond := .code y_VA_same c_VA_same 5 (some .boolean) :: TBL
theorem d_PS_delete_0 : decode c_PS_delete 0 = .ok (.aload_n 0, 1) := by decide +kernel
theorem d_PS_delete_1 : decode c_PS_delete 1 = .ok (.iload_n 1, 1) := by decide +kernel
theorem d_PS_delete_2 : decode c_PS_delete 2 = .ok (.invokevirtual 65, 3) := by decide +kernel
theorem d_PS_delete_5 : decode c_PS_delete 5 = .ok (.ifnonnull 5, 3) := by decide +kernel
theorem d_PS_delete_8 : decode c_PS_delete 8 = .ok (.iconst 0, 1) := by decide +kernel
theorem d_PS_delete_9 : decode c_PS_delete 9 = .ok (.ireturn, 1) := by decide +kernel
theorem d_PS_delete_10 : decode c_PS_delete 10 = .ok (.aload_n 0, 1) := by decide +kernel
theorem d_PS_delete_11 : decode c_PS_delete 11 = .ok (.getfield 26, 3) := by decide +kernel
theorem d_PS_delete_14 : decode c_PS_delete 14 = .ok (.iload_n 1, 1) := by decide +kernel
theorem d_PS_delete_15 : decode c_PS_delete 15 = .ok (.aconst_null, 1) := by decide +kernel
theorem d_PS_delete_16 : decode c_PS_delete 16 = .ok (.aastore, 1) := by decide +kernel
theorem d_PS_delete_17 : decode c_PS_delete 17 = .ok (.iconst 1, 1) := by decide +kernel
theorem d_PS_delete_18 : decode c_PS_delete 18 = .ok (.ireturn, 1) := by decide +kernel
def ws_PS_delete : List Cond := .code y_PS_delete c_PS_delete 2 (some .boolean) :: TBL
theorem d_PS_query_0 : decode c_PS_query 0 = .ok (.aload_n 0, 1) := by decide +kernel
theorem d_PS_query_1 : decode c_PS_query 1 = .ok (.invokevirtual 46, 3) := by decide +kernel
theorem d_PS_query_4 : decode c_PS_query 4 = .ok (.astore_n 2, 1) := by decide +kernel
theorem d_PS_query_5 : decode c_PS_query 5 = .ok (.aload_n 0, 1) := by decide +kernel
theorem d_PS_query_6 : decode c_PS_query 6 = .ok (.iload_n 1, 1) := by decide +kernel
theorem d_PS_query_7 : decode c_PS_query 7 = .ok (.invokevirtual 65, 3) := by decide +kernel
theorem d_PS_query_10 : decode c_PS_query 10 = .ok (.astore_n 3, 1) := by decide +kernel
theorem d_PS_query_11 : decode c_PS_query 11 = .ok (.aload_n 3, 1) := by decide +kernel
theorem d_PS_query_12 : decode c_PS_query 12 = .ok (.ifnonnull 5, 3) := by decide +kernel
theorem d_PS_query_15 : decode c_PS_query 15 = .ok (.iconst (-1), 1) := by decide +kernel
theorem d_PS_query_16 : decode c_PS_query 16 = .ok (.ireturn, 1) := by decide +kernel
theorem d_PS_query_17 : decode c_PS_query 17 = .ok (.new 88, 3) := by decide +kernel
theorem d_PS_query_20 : decode c_PS_query 20 = .ok (.dup, 1) := by decide +kernel
theorem d_PS_query_21 : decode c_PS_query 21 = .ok (.aload_n 2, 1) := by decide +kernel
theorem d_PS_query_22 : decode c_PS_query 22 = .ok (.invokespecial 90, 3) := by decide +kernel
theorem d_PS_query_25 : decode c_PS_query 25 = .ok (.invokevirtual 93, 3) := by decide +kernel
theorem d_PS_query_28 : decode c_PS_query 28 = .ok (.astore 4, 2) := by decide +kernel
theorem d_PS_query_30 : decode c_PS_query 30 = .ok (.aload 4, 2) := by decide +kernel
theorem d_PS_query_32 : decode c_PS_query 32 = .ok (.ifnonnull 6, 3) := by decide +kernel
theorem d_PS_query_35 : decode c_PS_query 35 = .ok (.bipush (-2), 2) := by decide +kernel
theorem d_PS_query_37 : decode c_PS_query 37 = .ok (.ireturn, 1) := by decide +kernel
theorem d_PS_query_38 : decode c_PS_query 38 = .ok (.new 33, 3) := by decide +kernel
theorem d_PS_query_41 : decode c_PS_query 41 = .ok (.dup, 1) := by decide +kernel
theorem d_PS_query_42 : decode c_PS_query 42 = .ok (.invokespecial 35, 3) := by decide +kernel
theorem d_PS_query_45 : decode c_PS_query 45 = .ok (.astore 5, 2) := by decide +kernel
theorem d_PS_query_47 : decode c_PS_query 47 = .ok (.aload 5, 2) := by decide +kernel
theorem d_PS_query_49 : decode c_PS_query 49 = .ok (.aload_n 3, 1) := by decide +kernel
theorem d_PS_query_50 : decode c_PS_query 50 = .ok (.invokevirtual 96, 3) := by decide +kernel
theorem d_PS_query_53 : decode c_PS_query 53 = .ok (.pop, 1) := by decide +kernel
theorem d_PS_query_54 : decode c_PS_query 54 = .ok (.iconst 0, 1) := by decide +kernel
theorem d_PS_query_55 : decode c_PS_query 55 = .ok (.istore 6, 2) := by decide +kernel
theorem d_PS_query_57 : decode c_PS_query 57 = .ok (.iload 6, 2) := by decide +kernel
theorem d_PS_query_59 : decode c_PS_query 59 = .ok (.aload 4, 2) := by decide +kernel
theorem d_PS_query_61 : decode c_PS_query 61 = .ok (.invokevirtual 100, 3) := by decide +kernel
theorem d_PS_query_64 : decode c_PS_query 64 = .ok (.if_icmp .ge 34, 3) := by decide +kernel
theorem d_PS_query_67 : decode c_PS_query 67 = .ok (.aload 4, 2) := by decide +kernel
theorem d_PS_query_69 : decode c_PS_query 69 = .ok (.iload 6, 2) := by decide +kernel
theorem d_PS_query_71 : decode c_PS_query 71 = .ok (.invokevirtual 104, 3) := by decide +kernel
theorem d_PS_query_74 : decode c_PS_query 74 = .ok (.checkcast 108, 3) := by decide +kernel
theorem d_PS_query_77 : decode c_PS_query 77 = .ok (.aload 5, 2) := by decide +kernel
theorem d_PS_query_79 : decode c_PS_query 79 = .ok (.invokevirtual 110, 3) := by decide +kernel
theorem d_PS_query_82 : decode c_PS_query 82 = .ok (.astore 5, 2) := by decide +kernel
theorem d_PS_query_84 : decode c_PS_query 84 = .ok (.aload 5, 2) := by decide +kernel
theorem d_PS_query_86 : decode c_PS_query 86 = .ok (.ifnonnull 6, 3) := by decide +kernel
theorem d_PS_query_89 : decode c_PS_query 89 = .ok (.bipush (-4), 2) := by decide +kernel
theorem d_PS_query_91 : decode c_PS_query 91 = .ok (.ireturn, 1) := by decide +kernel
theorem d_PS_query_92 : decode c_PS_query 92 = .ok (.iinc 6 1, 3) := by decide +kernel
theorem d_PS_query_95 : decode c_PS_query 95 = .ok (.goto (-38), 3) := by decide +kernel
theorem d_PS_query_98 : decode c_PS_query 98 = .ok (.aload_n 0, 1) := by decide +kernel
theorem d_PS_query_99 : decode c_PS_query 99 = .ok (.aload 5, 2) := by decide +kernel
theorem d_PS_query_101 : decode c_PS_query 101 = .ok (.putfield 36, 3) := by decide +kernel
theorem d_PS_query_104 : decode c_PS_query 104 = .ok (.aload 5, 2) := by decide +kernel
theorem d_PS_query_106 : decode c_PS_query 106 = .ok (.invokevirtual 100, 3) := by decide +kernel
theorem d_PS_query_109 : decode c_PS_query 109 = .ok (.ireturn, 1) := by decide +kernel
def ws_PS_query : List Cond := .code y_PS_query c_PS_query 7 (some .int) :: TBL
theorem d_PR_init_0 : decode c_PR_init 0 = .ok (.aload_n 0, 1) := by decide +kernel
theorem d_PR_init_1 : decode c_PR_init 1 = .ok (.invokespecial 3, 3) := by decide +kernel
theorem d_PR_init_4 : decode c_PR_init 4 = .ok (.aload_n 0, 1) := by decide +kernel
theorem d_PR_init_5 : decode c_PR_init 5 = .ok (.aload_n 1, 1) := by decide +kernel
theorem d_PR_init_6 : decode c_PR_init 6 = .ok (.putfield 9, 3) := by decide +kernel
theorem d_PR_init_9 : decode c_PR_init 9 = .ok (.return_, 1) := by decide +kernel
def ws_PR_init : List Cond := .code y_PR_init c_PR_init 2 none :: TBL
theorem d_PR_whole_0 : decode c_PR_whole 0 = .ok (.aload_n 0, 1) := by decide +kernel
theorem d_PR_whole_1 : decode c_PR_whole 1 = .ok (.getfield 9, 3) := by decide +kernel
theorem d_PR_whole_4 : decode c_PR_whole 4 = .ok (.bipush 36, 2) := by decide +kernel
theorem d_PR_whole_6 : decode c_PR_whole 6 = .ok (.invokevirtual 15, 3) := by decide +kernel
theorem d_PR_whole_9 : decode c_PR_whole 9 = .ok (.ifCond .ne 5, 3) := by decide +kernel
theorem d_PR_whole_12 : decode c_PR_whole 12 = .ok (.aconst_null, 1) := by decide +kernel
theorem d_PR_whole_13 : decode c_PR_whole 13 = .ok (.areturn, 1) := by decide +kernel
theorem d_PR_whole_14 : decode c_PR_whole 14 = .ok (.new 21, 3) := by decide +kernel
theorem d_PR_whole_17 : decode c_PR_whole 17 = .ok (.dup, 1) := by decide +kernel
theorem d_PR_whole_18 : decode c_PR_whole 18 = .ok (.invokespecial 23, 3) := by decide +kernel
theorem d_PR_whole_21 : decode c_PR_whole 21 = .ok (.astore_n 1, 1) := by decide +kernel
theorem d_PR_whole_22 : decode c_PR_whole 22 = .ok (.iconst 0, 1) := by decide +kernel
theorem d_PR_whole_23 : decode c_PR_whole 23 = .ok (.istore_n 2, 1) := by decide +kernel
theorem d_PR_whole_24 : decode c_PR_whole 24 = .ok (.iload_n 2, 1) := by decide +kernel
theorem d_PR_whole_25 : decode c_PR_whole 25 = .ok (.sipush 160, 3) := by decide +kernel
theorem d_PR_whole_28 : decode c_PR_whole 28 = .ok (.if_icmp .ge 36, 3) := by decide +kernel
theorem d_PR_whole_31 : decode c_PR_whole 31 = .ok (.aload_n 0, 1) := by decide +kernel
theorem d_PR_whole_32 : decode c_PR_whole 32 = .ok (.getfield 9, 3) := by decide +kernel
theorem d_PR_whole_35 : decode c_PR_whole 35 = .ok (.invokevirtual 24, 3) := by decide +kernel
theorem d_PR_whole_38 : decode c_PR_whole 38 = .ok (.ifCond .eq 26, 3) := by decide +kernel
theorem d_PR_whole_41 : decode c_PR_whole 41 = .ok (.aload_n 0, 1) := by decide +kernel
theorem d_PR_whole_42 : decode c_PR_whole 42 = .ok (.invokevirtual 28, 3) := by decide +kernel
theorem d_PR_whole_45 : decode c_PR_whole 45 = .ok (.astore_n 3, 1) := by decide +kernel
theorem d_PR_whole_46 : decode c_PR_whole 46 = .ok (.aload_n 3, 1) := by decide +kernel
theorem d_PR_whole_47 : decode c_PR_whole 47 = .ok (.ifnonnull 5, 3) := by decide +kernel
theorem d_PR_whole_50 : decode c_PR_whole 50 = .ok (.aconst_null, 1) := by decide +kernel
theorem d_PR_whole_51 : decode c_PR_whole 51 = .ok (.areturn, 1) := by decide +kernel
theorem d_PR_whole_52 : decode c_PR_whole 52 = .ok (.aload_n 1, 1) := by decide +kernel
theorem d_PR_whole_53 : decode c_PR_whole 53 = .ok (.aload_n 3, 1) := by decide +kernel
theorem d_PR_whole_54 : decode c_PR_whole 54 = .ok (.invokevirtual 32, 3) := by decide +kernel
theorem d_PR_whole_57 : decode c_PR_whole 57 = .ok (.pop, 1) := by decide +kernel
theorem d_PR_whole_58 : decode c_PR_whole 58 = .ok (.iinc 2 1, 3) := by decide +kernel
theorem d_PR_whole_61 : decode c_PR_whole 61 = .ok (.goto (-37), 3) := by decide +kernel
theorem d_PR_whole_64 : decode c_PR_whole 64 = .ok (.aload_n 1, 1) := by decide +kernel
theorem d_PR_whole_65 : decode c_PR_whole 65 = .ok (.areturn, 1) := by decide +kernel
def ws_PR_whole : List Cond := .code y_PR_whole c_PR_whole 4 (some (.object "java/util/ArrayList")) :: TBL
theorem d_PR_segment_0 : decode c_PR_segment 0 = .ok (.aload_n 0, 1) := by decide +kernel
theorem d_PR_segment_1 : decode c_PR_segment 1 = .ok (.invokevirtual 36, 3) := by decide +kernel
theorem d_PR_segment_4 : decode c_PR_segment 4 = .ok (.astore_n 1, 1) := by decide +kernel
theorem d_PR_segment_5 : decode c_PR_segment 5 = .ok (.aload_n 1, 1) := by decide +kernel
theorem d_PR_segment_6 : decode c_PR_segment 6 = .ok (.ifnull 10, 3) := by decide +kernel
theorem d_PR_segment_9 : decode c_PR_segment 9 = .ok (.aload_n 1, 1) := by decide +kernel
theorem d_PR_segment_10 : decode c_PR_segment 10 = .ok (.invokevirtual 39, 3) := by decide +kernel
theorem d_PR_segment_13 : decode c_PR_segment 13 = .ok (.ifCond .eq 5, 3) := by decide +kernel
theorem d_PR_segment_16 : decode c_PR_segment 16 = .ok (.aload_n 1, 1) := by decide +kernel
theorem d_PR_segment_17 : decode c_PR_segment 17 = .ok (.areturn, 1) := by decide +kernel
theorem d_PR_segment_18 : decode c_PR_segment 18 = .ok (.iconst 0, 1) := by decide +kernel
theorem d_PR_segment_19 : decode c_PR_segment 19 = .ok (.istore_n 2, 1) := by decide +kernel
theorem d_PR_segment_20 : decode c_PR_segment 20 = .ok (.iload_n 2, 1) := by decide +kernel
theorem d_PR_segment_21 : decode c_PR_segment 21 = .ok (.sipush 160, 3) := by decide +kernel
theorem d_PR_segment_24 : decode c_PR_segment 24 = .ok (.if_icmp .ge 71, 3) := by decide +kernel
theorem d_PR_segment_27 : decode c_PR_segment 27 = .ok (.aload_n 0, 1) := by decide +kernel
theorem d_PR_segment_28 : decode c_PR_segment 28 = .ok (.getfield 9, 3) := by decide +kernel
theorem d_PR_segment_31 : decode c_PR_segment 31 = .ok (.invokevirtual 45, 3) := by decide +kernel
theorem d_PR_segment_34 : decode c_PR_segment 34 = .ok (.aload_n 0, 1) := by decide +kernel
theorem d_PR_segment_35 : decode c_PR_segment 35 = .ok (.invokevirtual 48, 3) := by decide +kernel
theorem d_PR_segment_38 : decode c_PR_segment 38 = .ok (.astore_n 3, 1) := by decide +kernel
theorem d_PR_segment_39 : decode c_PR_segment 39 = .ok (.aload_n 3, 1) := by decide +kernel
theorem d_PR_segment_40 : decode c_PR_segment 40 = .ok (.ifnonnull 5, 3) := by decide +kernel
theorem d_PR_segment_43 : decode c_PR_segment 43 = .ok (.aconst_null, 1) := by decide +kernel
theorem d_PR_segment_44 : decode c_PR_segment 44 = .ok (.areturn, 1) := by decide +kernel
theorem d_PR_segment_45 : decode c_PR_segment 45 = .ok (.aload_n 1, 1) := by decide +kernel
theorem d_PR_segment_46 : decode c_PR_segment 46 = .ok (.getfield 52, 3) := by decide +kernel
theorem d_PR_segment_49 : decode c_PR_segment 49 = .ok (.aload_n 3, 1) := by decide +kernel
theorem d_PR_segment_50 : decode c_PR_segment 50 = .ok (.invokevirtual 32, 3) := by decide +kernel
theorem d_PR_segment_53 : decode c_PR_segment 53 = .ok (.pop, 1) := by decide +kernel
theorem d_PR_segment_54 : decode c_PR_segment 54 = .ok (.aload_n 0, 1) := by decide +kernel
theorem d_PR_segment_55 : decode c_PR_segment 55 = .ok (.getfield 9, 3) := by decide +kernel
theorem d_PR_segment_58 : decode c_PR_segment 58 = .ok (.invokevirtual 45, 3) := by decide +kernel
theorem d_PR_segment_61 : decode c_PR_segment 61 = .ok (.aload_n 0, 1) := by decide +kernel
theorem d_PR_segment_62 : decode c_PR_segment 62 = .ok (.getfield 9, 3) := by decide +kernel
theorem d_PR_segment_65 : decode c_PR_segment 65 = .ok (.bipush 93, 2) := by decide +kernel
theorem d_PR_segment_67 : decode c_PR_segment 67 = .ok (.invokevirtual 15, 3) := by decide +kernel
theorem d_PR_segment_70 : decode c_PR_segment 70 = .ok (.ifCond .eq 5, 3) := by decide +kernel
theorem d_PR_segment_73 : decode c_PR_segment 73 = .ok (.aload_n 1, 1) := by decide +kernel
theorem d_PR_segment_74 : decode c_PR_segment 74 = .ok (.areturn, 1) := by decide +kernel
theorem d_PR_segment_75 : decode c_PR_segment 75 = .ok (.aload_n 0, 1) := by decide +kernel
theorem d_PR_segment_76 : decode c_PR_segment 76 = .ok (.getfield 9, 3) := by decide +kernel
theorem d_PR_segment_79 : decode c_PR_segment 79 = .ok (.bipush 44, 2) := by decide +kernel
theorem d_PR_segment_81 : decode c_PR_segment 81 = .ok (.invokevirtual 15, 3) := by decide +kernel
theorem d_PR_segment_84 : decode c_PR_segment 84 = .ok (.ifCond .ne 5, 3) := by decide +kernel
theorem d_PR_segment_87 : decode c_PR_segment 87 = .ok (.aconst_null, 1) := by decide +kernel
theorem d_PR_segment_88 : decode c_PR_segment 88 = .ok (.areturn, 1) := by decide +kernel
theorem d_PR_segment_89 : decode c_PR_segment 89 = .ok (.iinc 2 1, 3) := by decide +kernel
theorem d_PR_segment_92 : decode c_PR_segment 92 = .ok (.goto (-72), 3) := by decide +kernel
theorem d_PR_segment_95 : decode c_PR_segment 95 = .ok (.aconst_null, 1) := by decide +kernel
theorem d_PR_segment_96 : decode c_PR_segment 96 = .ok (.areturn, 1) := by decide +kernel
def ws_PR_segment : List Cond := .code y_PR_segment c_PR_segment 4 (some (.object "PatchStore$Segment")) :: TBL
theorem d_PR_opening_0 : decode c_PR_opening 0 = .ok (.aload_n 0, 1) := by decide +kernel
theorem d_PR_opening_1 : decode c_PR_opening 1 = .ok (.getfield 9, 3) := by decide +kernel
theorem d_PR_opening_4 : decode c_PR_opening 4 = .ok (.bipush 46, 2) := by decide +kernel
theorem d_PR_opening_6 : decode c_PR_opening 6 = .ok (.invokevirtual 15, 3) := by decide +kernel
theorem d_PR_opening_9 : decode c_PR_opening 9 = .ok (.istore_n 1, 1) := by decide +kernel
theorem d_PR_opening_10 : decode c_PR_opening 10 = .ok (.new 40, 3) := by decide +kernel
theorem d_PR_opening_13 : decode c_PR_opening 13 = .ok (.dup, 1) := by decide +kernel
theorem d_PR_opening_14 : decode c_PR_opening 14 = .ok (.iload_n 1, 1) := by decide +kernel
theorem d_PR_opening_15 : decode c_PR_opening 15 = .ok (.ifCond .eq 19, 3) := by decide +kernel
theorem d_PR_opening_18 : decode c_PR_opening 18 = .ok (.aload_n 0, 1) := by decide +kernel
theorem d_PR_opening_19 : decode c_PR_opening 19 = .ok (.getfield 9, 3) := by decide +kernel
theorem d_PR_opening_22 : decode c_PR_opening 22 = .ok (.bipush 46, 2) := by decide +kernel
theorem d_PR_opening_24 : decode c_PR_opening 24 = .ok (.invokevirtual 15, 3) := by decide +kernel
theorem d_PR_opening_27 : decode c_PR_opening 27 = .ok (.ifCond .eq 7, 3) := by decide +kernel
theorem d_PR_opening_30 : decode c_PR_opening 30 = .ok (.iconst 1, 1) := by decide +kernel
theorem d_PR_opening_31 : decode c_PR_opening 31 = .ok (.goto 4, 3) := by decide +kernel
theorem d_PR_opening_34 : decode c_PR_opening 34 = .ok (.iconst 0, 1) := by decide +kernel
theorem d_PR_opening_35 : decode c_PR_opening 35 = .ok (.invokespecial 56, 3) := by decide +kernel
theorem d_PR_opening_38 : decode c_PR_opening 38 = .ok (.astore_n 2, 1) := by decide +kernel
theorem d_PR_opening_39 : decode c_PR_opening 39 = .ok (.aload_n 2, 1) := by decide +kernel
theorem d_PR_opening_40 : decode c_PR_opening 40 = .ok (.getfield 59, 3) := by decide +kernel
theorem d_PR_opening_43 : decode c_PR_opening 43 = .ok (.ifCond .ne 7, 3) := by decide +kernel
theorem d_PR_opening_46 : decode c_PR_opening 46 = .ok (.iload_n 1, 1) := by decide +kernel
theorem d_PR_opening_47 : decode c_PR_opening 47 = .ok (.ifCond .ne 17, 3) := by decide +kernel
theorem d_PR_opening_50 : decode c_PR_opening 50 = .ok (.aload_n 0, 1) := by decide +kernel
theorem d_PR_opening_51 : decode c_PR_opening 51 = .ok (.getfield 9, 3) := by decide +kernel
theorem d_PR_opening_54 : decode c_PR_opening 54 = .ok (.bipush 91, 2) := by decide +kernel
theorem d_PR_opening_56 : decode c_PR_opening 56 = .ok (.invokevirtual 15, 3) := by decide +kernel
theorem d_PR_opening_59 : decode c_PR_opening 59 = .ok (.ifCond .eq 5, 3) := by decide +kernel
theorem d_PR_opening_62 : decode c_PR_opening 62 = .ok (.aload_n 2, 1) := by decide +kernel
theorem d_PR_opening_63 : decode c_PR_opening 63 = .ok (.areturn, 1) := by decide +kernel
theorem d_PR_opening_64 : decode c_PR_opening 64 = .ok (.iload_n 1, 1) := by decide +kernel
theorem d_PR_opening_65 : decode c_PR_opening 65 = .ok (.ifCond .ne 5, 3) := by decide +kernel
theorem d_PR_opening_68 : decode c_PR_opening 68 = .ok (.aconst_null, 1) := by decide +kernel
theorem d_PR_opening_69 : decode c_PR_opening 69 = .ok (.areturn, 1) := by decide +kernel
theorem d_PR_opening_70 : decode c_PR_opening 70 = .ok (.aload_n 0, 1) := by decide +kernel
theorem d_PR_opening_71 : decode c_PR_opening 71 = .ok (.getfield 9, 3) := by decide +kernel
theorem d_PR_opening_74 : decode c_PR_opening 74 = .ok (.bipush 42, 2) := by decide +kernel
theorem d_PR_opening_76 : decode c_PR_opening 76 = .ok (.invokevirtual 15, 3) := by decide +kernel
theorem d_PR_opening_79 : decode c_PR_opening 79 = .ok (.ifCond .eq 9, 3) := by decide +kernel
theorem d_PR_opening_82 : decode c_PR_opening 82 = .ok (.invokestatic 63, 3) := by decide +kernel
theorem d_PR_opening_85 : decode c_PR_opening 85 = .ok (.goto 13, 3) := by decide +kernel
theorem d_PR_opening_88 : decode c_PR_opening 88 = .ok (.aload_n 0, 1) := by decide +kernel
theorem d_PR_opening_89 : decode c_PR_opening 89 = .ok (.getfield 9, 3) := by decide +kernel
theorem d_PR_opening_92 : decode c_PR_opening 92 = .ok (.invokevirtual 68, 3) := by decide +kernel
theorem d_PR_opening_95 : decode c_PR_opening 95 = .ok (.invokestatic 72, 3) := by decide +kernel
theorem d_PR_opening_98 : decode c_PR_opening 98 = .ok (.astore_n 3, 1) := by decide +kernel
theorem d_PR_opening_99 : decode c_PR_opening 99 = .ok (.aload_n 3, 1) := by decide +kernel
theorem d_PR_opening_100 : decode c_PR_opening 100 = .ok (.ifnonnull 5, 3) := by decide +kernel
theorem d_PR_opening_103 : decode c_PR_opening 103 = .ok (.aconst_null, 1) := by decide +kernel
theorem d_PR_opening_104 : decode c_PR_opening 104 = .ok (.areturn, 1) := by decide +kernel
theorem d_PR_opening_105 : decode c_PR_opening 105 = .ok (.aload_n 2, 1) := by decide +kernel
theorem d_PR_opening_106 : decode c_PR_opening 106 = .ok (.getfield 52, 3) := by decide +kernel
theorem d_PR_opening_109 : decode c_PR_opening 109 = .ok (.aload_n 3, 1) := by decide +kernel
theorem d_PR_opening_110 : decode c_PR_opening 110 = .ok (.invokevirtual 32, 3) := by decide +kernel
theorem d_PR_opening_113 : decode c_PR_opening 113 = .ok (.pop, 1) := by decide +kernel
theorem d_PR_opening_114 : decode c_PR_opening 114 = .ok (.aload_n 2, 1) := by decide +kernel
theorem d_PR_opening_115 : decode c_PR_opening 115 = .ok (.areturn, 1) := by decide +kernel
def ws_PR_opening : List Cond := .code y_PR_opening c_PR_opening 4 (some (.object "PatchStore$Segment")) :: TBL
theorem d_SG_init_0 : decode c_SG_init 0 = .ok (.aload_n 0, 1) := by decide +kernel
theorem d_SG_init_1 : decode c_SG_init 1 = .ok (.invokespecial 3, 3) := by decide +kernel
theorem d_SG_init_4 : decode c_SG_init 4 = .ok (.aload_n 0, 1) := by decide +kernel
theorem d_SG_init_5 : decode c_SG_init 5 = .ok (.new 9, 3) := by decide +kernel
theorem d_SG_init_8 : decode c_SG_init 8 = .ok (.dup, 1) := by decide +kernel
theorem d_SG_init_9 : decode c_SG_init 9 = .ok (.invokespecial 11, 3) := by decide +kernel
theorem d_SG_init_12 : decode c_SG_init 12 = .ok (.putfield 12, 3) := by decide +kernel
theorem d_SG_init_15 : decode c_SG_init 15 = .ok (.aload_n 0, 1) := by decide +kernel
theorem d_SG_init_16 : decode c_SG_init 16 = .ok (.iload_n 1, 1) := by decide +kernel
theorem d_SG_init_17 : decode c_SG_init 17 = .ok (.putfield 18, 3) := by decide +kernel
theorem d_SG_init_20 : decode c_SG_init 20 = .ok (.return_, 1) := by decide +kernel
def ws_SG_init : List Cond := .code y_SG_init c_SG_init 2 none :: TBL
theorem d_SE_all_0 : decode c_SE_all 0 = .ok (.new 8, 3) := by decide +kernel
theorem d_SE_all_3 : decode c_SE_all 3 = .ok (.dup, 1) := by decide +kernel
theorem d_SE_all_4 : decode c_SE_all 4 = .ok (.iconst 0, 1) := by decide +kernel
theorem d_SE_all_5 : decode c_SE_all 5 = .ok (.ldc 30, 2) := by decide +kernel
theorem d_SE_all_7 : decode c_SE_all 7 = .ok (.iconst 0, 1) := by decide +kernel
theorem d_SE_all_8 : decode c_SE_all 8 = .ok (.iconst 0, 1) := by decide +kernel
theorem d_SE_all_9 : decode c_SE_all 9 = .ok (.iconst 0, 1) := by decide +kernel
theorem d_SE_all_10 : decode c_SE_all 10 = .ok (.aconst_null, 1) := by decide +kernel
theorem d_SE_all_11 : decode c_SE_all 11 = .ok (.invokespecial 32, 3) := by decide +kernel
theorem d_SE_all_14 : decode c_SE_all 14 = .ok (.areturn, 1) := by decide +kernel
def ws_SE_all : List Cond := .code y_SE_all c_SE_all 0 (some (.object "PatchStore$Selector")) :: TBL
theorem d_SE_init_0 : decode c_SE_init 0 = .ok (.aload_n 0, 1) := by decide +kernel
theorem d_SE_init_1 : decode c_SE_init 1 = .ok (.invokespecial 1, 3) := by decide +kernel
theorem d_SE_init_4 : decode c_SE_init 4 = .ok (.aload_n 0, 1) := by decide +kernel
theorem d_SE_init_5 : decode c_SE_init 5 = .ok (.iload_n 1, 1) := by decide +kernel
theorem d_SE_init_6 : decode c_SE_init 6 = .ok (.putfield 7, 3) := by decide +kernel
theorem d_SE_init_9 : decode c_SE_init 9 = .ok (.aload_n 0, 1) := by decide +kernel
theorem d_SE_init_10 : decode c_SE_init 10 = .ok (.aload_n 2, 1) := by decide +kernel
theorem d_SE_init_11 : decode c_SE_init 11 = .ok (.putfield 13, 3) := by decide +kernel
theorem d_SE_init_14 : decode c_SE_init 14 = .ok (.aload_n 0, 1) := by decide +kernel
theorem d_SE_init_15 : decode c_SE_init 15 = .ok (.iload_n 3, 1) := by decide +kernel
theorem d_SE_init_16 : decode c_SE_init 16 = .ok (.putfield 17, 3) := by decide +kernel
theorem d_SE_init_19 : decode c_SE_init 19 = .ok (.aload_n 0, 1) := by decide +kernel
theorem d_SE_init_20 : decode c_SE_init 20 = .ok (.iload 4, 2) := by decide +kernel
theorem d_SE_init_22 : decode c_SE_init 22 = .ok (.putfield 20, 3) := by decide +kernel
theorem d_SE_init_25 : decode c_SE_init 25 = .ok (.aload_n 0, 1) := by decide +kernel
theorem d_SE_init_26 : decode c_SE_init 26 = .ok (.iload 5, 2) := by decide +kernel
theorem d_SE_init_28 : decode c_SE_init 28 = .ok (.putfield 23, 3) := by decide +kernel
theorem d_SE_init_31 : decode c_SE_init 31 = .ok (.aload_n 0, 1) := by decide +kernel
theorem d_SE_init_32 : decode c_SE_init 32 = .ok (.aload 6, 2) := by decide +kernel
theorem d_SE_init_34 : decode c_SE_init 34 = .ok (.putfield 26, 3) := by decide +kernel
theorem d_SE_init_37 : decode c_SE_init 37 = .ok (.return_, 1) := by decide +kernel
def ws_SE_init : List Cond := .code y_SE_init c_SE_init 7 none :: TBL
theorem d_CU_name_0 : decode c_CU_name 0 = .ok (.aload_n 0, 1) := by decide +kernel
theorem d_CU_name_1 : decode c_CU_name 1 = .ok (.getfield 22, 3) := by decide +kernel
theorem d_CU_name_4 : decode c_CU_name 4 = .ok (.iconst 0, 1) := by decide +kernel
theorem d_CU_name_5 : decode c_CU_name 5 = .ok (.invokevirtual 30, 3) := by decide +kernel
theorem d_CU_name_8 : decode c_CU_name 8 = .ok (.aload_n 0, 1) := by decide +kernel
theorem d_CU_name_9 : decode c_CU_name 9 = .ok (.getfield 9, 3) := by decide +kernel
theorem d_CU_name_12 : decode c_CU_name 12 = .ok (.aload_n 0, 1) := by decide +kernel
theorem d_CU_name_13 : decode c_CU_name 13 = .ok (.getfield 19, 3) := by decide +kernel
theorem d_CU_name_16 : decode c_CU_name 16 = .ok (.if_icmp .ge 73, 3) := by decide +kernel
theorem d_CU_name_19 : decode c_CU_name 19 = .ok (.aload_n 0, 1) := by decide +kernel
theorem d_CU_name_20 : decode c_CU_name 20 = .ok (.getfield 15, 3) := by decide +kernel
theorem d_CU_name_23 : decode c_CU_name 23 = .ok (.aload_n 0, 1) := by decide +kernel
theorem d_CU_name_24 : decode c_CU_name 24 = .ok (.getfield 9, 3) := by decide +kernel
theorem d_CU_name_27 : decode c_CU_name 27 = .ok (.caload, 1) := by decide +kernel
theorem d_CU_name_28 : decode c_CU_name 28 = .ok (.invokestatic 44, 3) := by decide +kernel
theorem d_CU_name_31 : decode c_CU_name 31 = .ok (.ifCond .ne 28, 3) := by decide +kernel
theorem d_CU_name_34 : decode c_CU_name 34 = .ok (.aload_n 0, 1) := by decide +kernel
theorem d_CU_name_35 : decode c_CU_name 35 = .ok (.getfield 15, 3) := by decide +kernel
theorem d_CU_name_38 : decode c_CU_name 38 = .ok (.aload_n 0, 1) := by decide +kernel
theorem d_CU_name_39 : decode c_CU_name 39 = .ok (.getfield 9, 3) := by decide +kernel
theorem d_CU_name_42 : decode c_CU_name 42 = .ok (.caload, 1) := by decide +kernel
theorem d_CU_name_43 : decode c_CU_name 43 = .ok (.invokestatic 48, 3) := by decide +kernel
theorem d_CU_name_46 : decode c_CU_name 46 = .ok (.ifCond .eq 43, 3) := by decide +kernel
theorem d_CU_name_49 : decode c_CU_name 49 = .ok (.aload_n 0, 1) := by decide +kernel
theorem d_CU_name_50 : decode c_CU_name 50 = .ok (.getfield 22, 3) := by decide +kernel
theorem d_CU_name_53 : decode c_CU_name 53 = .ok (.invokevirtual 51, 3) := by decide +kernel
theorem d_CU_name_56 : decode c_CU_name 56 = .ok (.ifCond .le 33, 3) := by decide +kernel
theorem d_CU_name_59 : decode c_CU_name 59 = .ok (.aload_n 0, 1) := by decide +kernel
theorem d_CU_name_60 : decode c_CU_name 60 = .ok (.getfield 22, 3) := by decide +kernel
theorem d_CU_name_63 : decode c_CU_name 63 = .ok (.aload_n 0, 1) := by decide +kernel
theorem d_CU_name_64 : decode c_CU_name 64 = .ok (.getfield 15, 3) := by decide +kernel
theorem d_CU_name_67 : decode c_CU_name 67 = .ok (.aload_n 0, 1) := by decide +kernel
theorem d_CU_name_68 : decode c_CU_name 68 = .ok (.getfield 9, 3) := by decide +kernel
theorem d_CU_name_71 : decode c_CU_name 71 = .ok (.caload, 1) := by decide +kernel
theorem d_CU_name_72 : decode c_CU_name 72 = .ok (.invokevirtual 40, 3) := by decide +kernel
theorem d_CU_name_75 : decode c_CU_name 75 = .ok (.pop, 1) := by decide +kernel
theorem d_CU_name_76 : decode c_CU_name 76 = .ok (.aload_n 0, 1) := by decide +kernel
theorem d_CU_name_77 : decode c_CU_name 77 = .ok (.dup, 1) := by decide +kernel
theorem d_CU_name_78 : decode c_CU_name 78 = .ok (.getfield 9, 3) := by decide +kernel
theorem d_CU_name_81 : decode c_CU_name 81 = .ok (.iconst 1, 1) := by decide +kernel
theorem d_CU_name_82 : decode c_CU_name 82 = .ok (.iadd, 1) := by decide +kernel
theorem d_CU_name_83 : decode c_CU_name 83 = .ok (.putfield 9, 3) := by decide +kernel
theorem d_CU_name_86 : decode c_CU_name 86 = .ok (.goto (-78), 3) := by decide +kernel
theorem d_CU_name_89 : decode c_CU_name 89 = .ok (.aload_n 0, 1) := by decide +kernel
theorem d_CU_name_90 : decode c_CU_name 90 = .ok (.getfield 22, 3) := by decide +kernel
theorem d_CU_name_93 : decode c_CU_name 93 = .ok (.invokevirtual 51, 3) := by decide +kernel
theorem d_CU_name_96 : decode c_CU_name 96 = .ok (.ifCond .ne 7, 3) := by decide +kernel
theorem d_CU_name_99 : decode c_CU_name 99 = .ok (.aconst_null, 1) := by decide +kernel
theorem d_CU_name_100 : decode c_CU_name 100 = .ok (.goto 10, 3) := by decide +kernel
theorem d_CU_name_103 : decode c_CU_name 103 = .ok (.aload_n 0, 1) := by decide +kernel
theorem d_CU_name_104 : decode c_CU_name 104 = .ok (.getfield 22, 3) := by decide +kernel
theorem d_CU_name_107 : decode c_CU_name 107 = .ok (.invokevirtual 36, 3) := by decide +kernel
theorem d_CU_name_110 : decode c_CU_name 110 = .ok (.areturn, 1) := by decide +kernel
def ws_CU_name : List Cond := .code y_CU_name c_CU_name 1 (some (.object "java/lang/String")) :: TBL
theorem d_PS_isLetter_0 : decode c_PS_isLetter 0 = .ok (.iload_n 0, 1) := by decide +kernel
theorem d_PS_isLetter_1 : decode c_PS_isLetter 1 = .ok (.bipush 97, 2) := by decide +kernel
theorem d_PS_isLetter_3 : decode c_PS_isLetter 3 = .ok (.if_icmp .lt 9, 3) := by decide +kernel
theorem d_PS_isLetter_6 : decode c_PS_isLetter 6 = .ok (.iload_n 0, 1) := by decide +kernel
theorem d_PS_isLetter_7 : decode c_PS_isLetter 7 = .ok (.bipush 122, 2) := by decide +kernel
theorem d_PS_isLetter_9 : decode c_PS_isLetter 9 = .ok (.if_icmp .le 21, 3) := by decide +kernel
theorem d_PS_isLetter_12 : decode c_PS_isLetter 12 = .ok (.iload_n 0, 1) := by decide +kernel
theorem d_PS_isLetter_13 : decode c_PS_isLetter 13 = .ok (.bipush 65, 2) := by decide +kernel
theorem d_PS_isLetter_15 : decode c_PS_isLetter 15 = .ok (.if_icmp .lt 9, 3) := by decide +kernel
theorem d_PS_isLetter_18 : decode c_PS_isLetter 18 = .ok (.iload_n 0, 1) := by decide +kernel
theorem d_PS_isLetter_19 : decode c_PS_isLetter 19 = .ok (.bipush 90, 2) := by decide +kernel
theorem d_PS_isLetter_21 : decode c_PS_isLetter 21 = .ok (.if_icmp .le 9, 3) := by decide +kernel
theorem d_PS_isLetter_24 : decode c_PS_isLetter 24 = .ok (.iload_n 0, 1) := by decide +kernel
theorem d_PS_isLetter_25 : decode c_PS_isLetter 25 = .ok (.bipush 95, 2) := by decide +kernel
theorem d_PS_isLetter_27 : decode c_PS_isLetter 27 = .ok (.if_icmp .ne 7, 3) := by decide +kernel
theorem d_PS_isLetter_30 : decode c_PS_isLetter 30 = .ok (.iconst 1, 1) := by decide +kernel
theorem d_PS_isLetter_31 : decode c_PS_isLetter 31 = .ok (.goto 4, 3) := by decide +kernel
theorem d_PS_isLetter_34 : decode c_PS_isLetter 34 = .ok (.iconst 0, 1) := by decide +kernel
theorem d_PS_isLetter_35 : decode c_PS_isLetter 35 = .ok (.ireturn, 1) := by decide +kernel
def ws_PS_isLetter : List Cond := .code y_PS_isLetter c_PS_isLetter 1 (some .boolean) :: TBL
theorem d_SE_named_0 : decode c_SE_named 0 = .ok (.aload_n 0, 1) := by decide +kernel
theorem d_SE_named_1 : decode c_SE_named 1 = .ok (.ifnonnull 7, 3) := by decide +kernel
theorem d_SE_named_4 : decode c_SE_named 4 = .ok (.aconst_null, 1) := by decide +kernel
theorem d_SE_named_5 : decode c_SE_named 5 = .ok (.goto 16, 3) := by decide +kernel
theorem d_SE_named_8 : decode c_SE_named 8 = .ok (.new 8, 3) := by decide +kernel
theorem d_SE_named_11 : decode c_SE_named 11 = .ok (.dup, 1) := by decide +kernel
theorem d_SE_named_12 : decode c_SE_named 12 = .ok (.iconst 1, 1) := by decide +kernel
theorem d_SE_named_13 : decode c_SE_named 13 = .ok (.aload_n 0, 1) := by decide +kernel
theorem d_SE_named_14 : decode c_SE_named 14 = .ok (.iconst 0, 1) := by decide +kernel
theorem d_SE_named_15 : decode c_SE_named 15 = .ok (.iconst 0, 1) := by decide +kernel
theorem d_SE_named_16 : decode c_SE_named 16 = .ok (.iconst 0, 1) := by decide +kernel
theorem d_SE_named_17 : decode c_SE_named 17 = .ok (.aconst_null, 1) := by decide +kernel
theorem d_SE_named_18 : decode c_SE_named 18 = .ok (.invokespecial 32, 3) := by decide +kernel
theorem d_SE_named_21 : decode c_SE_named 21 = .ok (.areturn, 1) := by decide +kernel
def ws_SE_named : List Cond := .code y_SE_named c_SE_named 1 (some (.object "PatchStore$Selector")) :: TBL
theorem d_SG_isWhole_0 : decode c_SG_isWhole 0 = .ok (.aload_n 0, 1) := by decide +kernel
theorem d_SG_isWhole_1 : decode c_SG_isWhole 1 = .ok (.getfield 12, 3) := by decide +kernel
theorem d_SG_isWhole_4 : decode c_SG_isWhole 4 = .ok (.invokevirtual 22, 3) := by decide +kernel
theorem d_SG_isWhole_7 : decode c_SG_isWhole 7 = .ok (.ifCond .ne 7, 3) := by decide +kernel
theorem d_SG_isWhole_10 : decode c_SG_isWhole 10 = .ok (.iconst 1, 1) := by decide +kernel
theorem d_SG_isWhole_11 : decode c_SG_isWhole 11 = .ok (.goto 4, 3) := by decide +kernel
theorem d_SG_isWhole_14 : decode c_SG_isWhole 14 = .ok (.iconst 0, 1) := by decide +kernel
theorem d_SG_isWhole_15 : decode c_SG_isWhole 15 = .ok (.ireturn, 1) := by decide +kernel
def ws_SG_isWhole : List Cond := .code y_SG_isWhole c_SG_isWhole 1 (some .boolean) :: TBL
theorem d_AL_isEmpty_0 : decode c_AL_isEmpty 0 = .ok (.aload_n 0, 1) := by decide +kernel
theorem d_AL_isEmpty_1 : decode c_AL_isEmpty 1 = .ok (.getfield 48, 3) := by decide +kernel
theorem d_AL_isEmpty_4 : decode c_AL_isEmpty 4 = .ok (.ifCond .ne 7, 3) := by decide +kernel
theorem d_AL_isEmpty_7 : decode c_AL_isEmpty 7 = .ok (.iconst 1, 1) := by decide +kernel
theorem d_AL_isEmpty_8 : decode c_AL_isEmpty 8 = .ok (.goto 4, 3) := by decide +kernel
theorem d_AL_isEmpty_11 : decode c_AL_isEmpty 11 = .ok (.iconst 0, 1) := by decide +kernel
theorem d_AL_isEmpty_12 : decode c_AL_isEmpty 12 = .ok (.ireturn, 1) := by decide +kernel
def ws_AL_isEmpty : List Cond := .code y_AL_isEmpty c_AL_isEmpty 1 (some .boolean) :: TBL
theorem d_PR_selector_0 : decode c_PR_selector 0 = .ok (.aload_n 0, 1) := by decide +kernel
theorem d_PR_selector_1 : decode c_PR_selector 1 = .ok (.getfield 9, 3) := by decide +kernel
theorem d_PR_selector_4 : decode c_PR_selector 4 = .ok (.bipush 42, 2) := by decide +kernel
theorem d_PR_selector_6 : decode c_PR_selector 6 = .ok (.invokevirtual 15, 3) := by decide +kernel
theorem d_PR_selector_9 : decode c_PR_selector 9 = .ok (.ifCond .eq 7, 3) := by decide +kernel
theorem d_PR_selector_12 : decode c_PR_selector 12 = .ok (.invokestatic 63, 3) := by decide +kernel
theorem d_PR_selector_15 : decode c_PR_selector 15 = .ok (.areturn, 1) := by decide +kernel
theorem d_PR_selector_16 : decode c_PR_selector 16 = .ok (.aload_n 0, 1) := by decide +kernel
theorem d_PR_selector_17 : decode c_PR_selector 17 = .ok (.getfield 9, 3) := by decide +kernel
theorem d_PR_selector_20 : decode c_PR_selector 20 = .ok (.bipush 63, 2) := by decide +kernel
theorem d_PR_selector_22 : decode c_PR_selector 22 = .ok (.invokevirtual 15, 3) := by decide +kernel
theorem d_PR_selector_25 : decode c_PR_selector 25 = .ok (.ifCond .eq 41, 3) := by decide +kernel
theorem d_PR_selector_28 : decode c_PR_selector 28 = .ok (.aload_n 0, 1) := by decide +kernel
theorem d_PR_selector_29 : decode c_PR_selector 29 = .ok (.getfield 9, 3) := by decide +kernel
theorem d_PR_selector_32 : decode c_PR_selector 32 = .ok (.bipush 64, 2) := by decide +kernel
theorem d_PR_selector_34 : decode c_PR_selector 34 = .ok (.invokevirtual 15, 3) := by decide +kernel
theorem d_PR_selector_37 : decode c_PR_selector 37 = .ok (.ifCond .eq 10, 3) := by decide +kernel
theorem d_PR_selector_40 : decode c_PR_selector 40 = .ok (.aload_n 0, 1) := by decide +kernel
theorem d_PR_selector_41 : decode c_PR_selector 41 = .ok (.invokevirtual 76, 3) := by decide +kernel
theorem d_PR_selector_44 : decode c_PR_selector 44 = .ok (.goto 4, 3) := by decide +kernel
theorem d_PR_selector_47 : decode c_PR_selector 47 = .ok (.aconst_null, 1) := by decide +kernel
theorem d_PR_selector_48 : decode c_PR_selector 48 = .ok (.astore_n 1, 1) := by decide +kernel
theorem d_PR_selector_49 : decode c_PR_selector 49 = .ok (.aload_n 1, 1) := by decide +kernel
theorem d_PR_selector_50 : decode c_PR_selector 50 = .ok (.ifnonnull 7, 3) := by decide +kernel
theorem d_PR_selector_53 : decode c_PR_selector 53 = .ok (.aconst_null, 1) := by decide +kernel
theorem d_PR_selector_54 : decode c_PR_selector 54 = .ok (.goto 11, 3) := by decide +kernel
theorem d_PR_selector_57 : decode c_PR_selector 57 = .ok (.aload_n 0, 1) := by decide +kernel
theorem d_PR_selector_58 : decode c_PR_selector 58 = .ok (.aload_n 1, 1) := by decide +kernel
theorem d_PR_selector_59 : decode c_PR_selector 59 = .ok (.invokevirtual 80, 3) := by decide +kernel
theorem d_PR_selector_62 : decode c_PR_selector 62 = .ok (.invokestatic 84, 3) := by decide +kernel
theorem d_PR_selector_65 : decode c_PR_selector 65 = .ok (.areturn, 1) := by decide +kernel
theorem d_PR_selector_66 : decode c_PR_selector 66 = .ok (.aload_n 0, 1) := by decide +kernel
theorem d_PR_selector_67 : decode c_PR_selector 67 = .ok (.getfield 9, 3) := by decide +kernel
theorem d_PR_selector_70 : decode c_PR_selector 70 = .ok (.invokevirtual 88, 3) := by decide +kernel
theorem d_PR_selector_73 : decode c_PR_selector 73 = .ok (.ifCond .eq 14, 3) := by decide +kernel
theorem d_PR_selector_76 : decode c_PR_selector 76 = .ok (.aload_n 0, 1) := by decide +kernel
theorem d_PR_selector_77 : decode c_PR_selector 77 = .ok (.getfield 9, 3) := by decide +kernel
theorem d_PR_selector_80 : decode c_PR_selector 80 = .ok (.invokevirtual 91, 3) := by decide +kernel
theorem d_PR_selector_83 : decode c_PR_selector 83 = .ok (.invokestatic 72, 3) := by decide +kernel
theorem d_PR_selector_86 : decode c_PR_selector 86 = .ok (.areturn, 1) := by decide +kernel
theorem d_PR_selector_87 : decode c_PR_selector 87 = .ok (.aload_n 0, 1) := by decide +kernel
theorem d_PR_selector_88 : decode c_PR_selector 88 = .ok (.invokevirtual 94, 3) := by decide +kernel
theorem d_PR_selector_91 : decode c_PR_selector 91 = .ok (.istore_n 1, 1) := by decide +kernel
theorem d_PR_selector_92 : decode c_PR_selector 92 = .ok (.aload_n 0, 1) := by decide +kernel
theorem d_PR_selector_93 : decode c_PR_selector 93 = .ok (.getfield 9, 3) := by decide +kernel
theorem d_PR_selector_96 : decode c_PR_selector 96 = .ok (.bipush 58, 2) := by decide +kernel
theorem d_PR_selector_98 : decode c_PR_selector 98 = .ok (.invokevirtual 15, 3) := by decide +kernel
theorem d_PR_selector_101 : decode c_PR_selector 101 = .ok (.ifCond .ne 8, 3) := by decide +kernel
theorem d_PR_selector_104 : decode c_PR_selector 104 = .ok (.iload_n 1, 1) := by decide +kernel
theorem d_PR_selector_105 : decode c_PR_selector 105 = .ok (.invokestatic 98, 3) := by decide +kernel
theorem d_PR_selector_108 : decode c_PR_selector 108 = .ok (.areturn, 1) := by decide +kernel
theorem d_PR_selector_109 : decode c_PR_selector 109 = .ok (.aload_n 0, 1) := by decide +kernel
theorem d_PR_selector_110 : decode c_PR_selector 110 = .ok (.invokevirtual 94, 3) := by decide +kernel
theorem d_PR_selector_113 : decode c_PR_selector 113 = .ok (.istore_n 2, 1) := by decide +kernel
theorem d_PR_selector_114 : decode c_PR_selector 114 = .ok (.aload_n 0, 1) := by decide +kernel
theorem d_PR_selector_115 : decode c_PR_selector 115 = .ok (.getfield 9, 3) := by decide +kernel
theorem d_PR_selector_118 : decode c_PR_selector 118 = .ok (.bipush 58, 2) := by decide +kernel
theorem d_PR_selector_120 : decode c_PR_selector 120 = .ok (.invokevirtual 15, 3) := by decide +kernel
theorem d_PR_selector_123 : decode c_PR_selector 123 = .ok (.ifCond .eq 10, 3) := by decide +kernel
theorem d_PR_selector_126 : decode c_PR_selector 126 = .ok (.aload_n 0, 1) := by decide +kernel
theorem d_PR_selector_127 : decode c_PR_selector 127 = .ok (.invokevirtual 94, 3) := by decide +kernel
theorem d_PR_selector_130 : decode c_PR_selector 130 = .ok (.goto 6, 3) := by decide +kernel
theorem d_PR_selector_133 : decode c_PR_selector 133 = .ok (.sipush 1000, 3) := by decide +kernel
theorem d_PR_selector_136 : decode c_PR_selector 136 = .ok (.istore_n 3, 1) := by decide +kernel
theorem d_PR_selector_137 : decode c_PR_selector 137 = .ok (.iload_n 1, 1) := by decide +kernel
theorem d_PR_selector_138 : decode c_PR_selector 138 = .ok (.iload_n 2, 1) := by decide +kernel
theorem d_PR_selector_139 : decode c_PR_selector 139 = .ok (.iload_n 3, 1) := by decide +kernel
theorem d_PR_selector_140 : decode c_PR_selector 140 = .ok (.invokestatic 102, 3) := by decide +kernel
theorem d_PR_selector_143 : decode c_PR_selector 143 = .ok (.areturn, 1) := by decide +kernel
def ws_PR_selector : List Cond := .code y_PR_selector c_PR_selector 4 (some (.object "PatchStore$Selector")) :: TBL
theorem d_PR_accesses_0 : decode c_PR_accesses 0 = .ok (.new 21, 3) := by decide +kernel
theorem d_PR_accesses_3 : decode c_PR_accesses 3 = .ok (.dup, 1) := by decide +kernel
theorem d_PR_accesses_4 : decode c_PR_accesses 4 = .ok (.invokespecial 23, 3) := by decide +kernel
theorem d_PR_accesses_7 : decode c_PR_accesses 7 = .ok (.astore_n 1, 1) := by decide +kernel
theorem d_PR_accesses_8 : decode c_PR_accesses 8 = .ok (.iconst 0, 1) := by decide +kernel
theorem d_PR_accesses_9 : decode c_PR_accesses 9 = .ok (.istore_n 2, 1) := by decide +kernel
theorem d_PR_accesses_10 : decode c_PR_accesses 10 = .ok (.iload_n 2, 1) := by decide +kernel
theorem d_PR_accesses_11 : decode c_PR_accesses 11 = .ok (.sipush 160, 3) := by decide +kernel
theorem d_PR_accesses_14 : decode c_PR_accesses 14 = .ok (.if_icmp .ge 129, 3) := by decide +kernel
theorem d_PR_accesses_17 : decode c_PR_accesses 17 = .ok (.aconst_null, 1) := by decide +kernel
theorem d_PR_accesses_18 : decode c_PR_accesses 18 = .ok (.astore_n 3, 1) := by decide +kernel
theorem d_PR_accesses_19 : decode c_PR_accesses 19 = .ok (.aload_n 0, 1) := by decide +kernel
theorem d_PR_accesses_20 : decode c_PR_accesses 20 = .ok (.getfield 9, 3) := by decide +kernel
theorem d_PR_accesses_23 : decode c_PR_accesses 23 = .ok (.bipush 46, 2) := by decide +kernel
theorem d_PR_accesses_25 : decode c_PR_accesses 25 = .ok (.invokevirtual 15, 3) := by decide +kernel
theorem d_PR_accesses_28 : decode c_PR_accesses 28 = .ok (.ifCond .eq 17, 3) := by decide +kernel
theorem d_PR_accesses_31 : decode c_PR_accesses 31 = .ok (.aload_n 0, 1) := by decide +kernel
theorem d_PR_accesses_32 : decode c_PR_accesses 32 = .ok (.getfield 9, 3) := by decide +kernel
theorem d_PR_accesses_35 : decode c_PR_accesses 35 = .ok (.invokevirtual 68, 3) := by decide +kernel
theorem d_PR_accesses_38 : decode c_PR_accesses 38 = .ok (.invokestatic 72, 3) := by decide +kernel
theorem d_PR_accesses_41 : decode c_PR_accesses 41 = .ok (.astore_n 3, 1) := by decide +kernel
theorem d_PR_accesses_42 : decode c_PR_accesses 42 = .ok (.goto 83, 3) := by decide +kernel
theorem d_PR_accesses_45 : decode c_PR_accesses 45 = .ok (.aload_n 0, 1) := by decide +kernel
theorem d_PR_accesses_46 : decode c_PR_accesses 46 = .ok (.getfield 9, 3) := by decide +kernel
theorem d_PR_accesses_49 : decode c_PR_accesses 49 = .ok (.bipush 91, 2) := by decide +kernel
theorem d_PR_accesses_51 : decode c_PR_accesses 51 = .ok (.invokevirtual 15, 3) := by decide +kernel
theorem d_PR_accesses_54 : decode c_PR_accesses 54 = .ok (.ifCond .eq 69, 3) := by decide +kernel
theorem d_PR_accesses_57 : decode c_PR_accesses 57 = .ok (.aload_n 0, 1) := by decide +kernel
theorem d_PR_accesses_58 : decode c_PR_accesses 58 = .ok (.getfield 9, 3) := by decide +kernel
theorem d_PR_accesses_61 : decode c_PR_accesses 61 = .ok (.invokevirtual 45, 3) := by decide +kernel
theorem d_PR_accesses_64 : decode c_PR_accesses 64 = .ok (.aload_n 0, 1) := by decide +kernel
theorem d_PR_accesses_65 : decode c_PR_accesses 65 = .ok (.getfield 9, 3) := by decide +kernel
theorem d_PR_accesses_68 : decode c_PR_accesses 68 = .ok (.invokevirtual 88, 3) := by decide +kernel
theorem d_PR_accesses_71 : decode c_PR_accesses 71 = .ok (.ifCond .eq 16, 3) := by decide +kernel
theorem d_PR_accesses_74 : decode c_PR_accesses 74 = .ok (.aload_n 0, 1) := by decide +kernel
theorem d_PR_accesses_75 : decode c_PR_accesses 75 = .ok (.getfield 9, 3) := by decide +kernel
theorem d_PR_accesses_78 : decode c_PR_accesses 78 = .ok (.invokevirtual 91, 3) := by decide +kernel
theorem d_PR_accesses_81 : decode c_PR_accesses 81 = .ok (.invokestatic 72, 3) := by decide +kernel
theorem d_PR_accesses_84 : decode c_PR_accesses 84 = .ok (.goto 10, 3) := by decide +kernel
theorem d_PR_accesses_87 : decode c_PR_accesses 87 = .ok (.aload_n 0, 1) := by decide +kernel
theorem d_PR_accesses_88 : decode c_PR_accesses 88 = .ok (.invokevirtual 94, 3) := by decide +kernel
theorem d_PR_accesses_91 : decode c_PR_accesses 91 = .ok (.invokestatic 98, 3) := by decide +kernel
theorem d_PR_accesses_94 : decode c_PR_accesses 94 = .ok (.astore_n 3, 1) := by decide +kernel
theorem d_PR_accesses_95 : decode c_PR_accesses 95 = .ok (.aload_n 0, 1) := by decide +kernel
theorem d_PR_accesses_96 : decode c_PR_accesses 96 = .ok (.getfield 9, 3) := by decide +kernel
theorem d_PR_accesses_99 : decode c_PR_accesses 99 = .ok (.invokevirtual 45, 3) := by decide +kernel
theorem d_PR_accesses_102 : decode c_PR_accesses 102 = .ok (.aload_n 0, 1) := by decide +kernel
theorem d_PR_accesses_103 : decode c_PR_accesses 103 = .ok (.getfield 9, 3) := by decide +kernel
theorem d_PR_accesses_106 : decode c_PR_accesses 106 = .ok (.bipush 93, 2) := by decide +kernel
theorem d_PR_accesses_108 : decode c_PR_accesses 108 = .ok (.invokevirtual 15, 3) := by decide +kernel
theorem d_PR_accesses_111 : decode c_PR_accesses 111 = .ok (.ifCond .eq 7, 3) := by decide +kernel
theorem d_PR_accesses_114 : decode c_PR_accesses 114 = .ok (.aload_n 3, 1) := by decide +kernel
theorem d_PR_accesses_115 : decode c_PR_accesses 115 = .ok (.goto 4, 3) := by decide +kernel
theorem d_PR_accesses_118 : decode c_PR_accesses 118 = .ok (.aconst_null, 1) := by decide +kernel
theorem d_PR_accesses_119 : decode c_PR_accesses 119 = .ok (.astore_n 3, 1) := by decide +kernel
theorem d_PR_accesses_120 : decode c_PR_accesses 120 = .ok (.goto 5, 3) := by decide +kernel
theorem d_PR_accesses_123 : decode c_PR_accesses 123 = .ok (.aload_n 1, 1) := by decide +kernel
theorem d_PR_accesses_124 : decode c_PR_accesses 124 = .ok (.areturn, 1) := by decide +kernel
theorem d_PR_accesses_125 : decode c_PR_accesses 125 = .ok (.aload_n 3, 1) := by decide +kernel
theorem d_PR_accesses_126 : decode c_PR_accesses 126 = .ok (.ifnonnull 5, 3) := by decide +kernel
theorem d_PR_accesses_129 : decode c_PR_accesses 129 = .ok (.aconst_null, 1) := by decide +kernel
theorem d_PR_accesses_130 : decode c_PR_accesses 130 = .ok (.areturn, 1) := by decide +kernel
theorem d_PR_accesses_131 : decode c_PR_accesses 131 = .ok (.aload_n 1, 1) := by decide +kernel
theorem d_PR_accesses_132 : decode c_PR_accesses 132 = .ok (.aload_n 3, 1) := by decide +kernel
theorem d_PR_accesses_133 : decode c_PR_accesses 133 = .ok (.invokevirtual 32, 3) := by decide +kernel
theorem d_PR_accesses_136 : decode c_PR_accesses 136 = .ok (.pop, 1) := by decide +kernel
theorem d_PR_accesses_137 : decode c_PR_accesses 137 = .ok (.iinc 2 1, 3) := by decide +kernel
theorem d_PR_accesses_140 : decode c_PR_accesses 140 = .ok (.goto (-130), 3) := by decide +kernel
theorem d_PR_accesses_143 : decode c_PR_accesses 143 = .ok (.aconst_null, 1) := by decide +kernel
theorem d_PR_accesses_144 : decode c_PR_accesses 144 = .ok (.areturn, 1) := by decide +kernel
def ws_PR_accesses : List Cond := .code y_PR_accesses c_PR_accesses 4 (some (.object "java/util/ArrayList")) :: TBL
theorem d_CU_isAtString_0 : decode c_CU_isAtString 0 = .ok (.aload_n 0, 1) := by decide +kernel
theorem d_CU_isAtString_1 : decode c_CU_isAtString 1 = .ok (.getfield 9, 3) := by decide +kernel
theorem d_CU_isAtString_4 : decode c_CU_isAtString 4 = .ok (.aload_n 0, 1) := by decide +kernel
theorem d_CU_isAtString_5 : decode c_CU_isAtString 5 = .ok (.getfield 19, 3) := by decide +kernel
theorem d_CU_isAtString_8 : decode c_CU_isAtString 8 = .ok (.if_icmp .ge 35, 3) := by decide +kernel
theorem d_CU_isAtString_11 : decode c_CU_isAtString 11 = .ok (.aload_n 0, 1) := by decide +kernel
theorem d_CU_isAtString_12 : decode c_CU_isAtString 12 = .ok (.getfield 15, 3) := by decide +kernel
theorem d_CU_isAtString_15 : decode c_CU_isAtString 15 = .ok (.aload_n 0, 1) := by decide +kernel
theorem d_CU_isAtString_16 : decode c_CU_isAtString 16 = .ok (.getfield 9, 3) := by decide +kernel
theorem d_CU_isAtString_19 : decode c_CU_isAtString 19 = .ok (.caload, 1) := by decide +kernel
theorem d_CU_isAtString_20 : decode c_CU_isAtString 20 = .ok (.bipush 34, 2) := by decide +kernel
theorem d_CU_isAtString_22 : decode c_CU_isAtString 22 = .ok (.if_icmp .eq 17, 3) := by decide +kernel
theorem d_CU_isAtString_25 : decode c_CU_isAtString 25 = .ok (.aload_n 0, 1) := by decide +kernel
theorem d_CU_isAtString_26 : decode c_CU_isAtString 26 = .ok (.getfield 15, 3) := by decide +kernel
theorem d_CU_isAtString_29 : decode c_CU_isAtString 29 = .ok (.aload_n 0, 1) := by decide +kernel
theorem d_CU_isAtString_30 : decode c_CU_isAtString 30 = .ok (.getfield 9, 3) := by decide +kernel
theorem d_CU_isAtString_33 : decode c_CU_isAtString 33 = .ok (.caload, 1) := by decide +kernel
theorem d_CU_isAtString_34 : decode c_CU_isAtString 34 = .ok (.bipush 39, 2) := by decide +kernel
theorem d_CU_isAtString_36 : decode c_CU_isAtString 36 = .ok (.if_icmp .ne 7, 3) := by decide +kernel
theorem d_CU_isAtString_39 : decode c_CU_isAtString 39 = .ok (.iconst 1, 1) := by decide +kernel
theorem d_CU_isAtString_40 : decode c_CU_isAtString 40 = .ok (.goto 4, 3) := by decide +kernel
theorem d_CU_isAtString_43 : decode c_CU_isAtString 43 = .ok (.iconst 0, 1) := by decide +kernel
theorem d_CU_isAtString_44 : decode c_CU_isAtString 44 = .ok (.ireturn, 1) := by decide +kernel
def ws_CU_isAtString : List Cond := .code y_CU_isAtString c_CU_isAtString 1 (some .boolean) :: TBL
theorem d_PR_index_0 : decode c_PR_index 0 = .ok (.aload_n 0, 1) := by decide +kernel
theorem d_PR_index_1 : decode c_PR_index 1 = .ok (.getfield 9, 3) := by decide +kernel
theorem d_PR_index_4 : decode c_PR_index 4 = .ok (.bipush 48, 2) := by decide +kernel
theorem d_PR_index_6 : decode c_PR_index 6 = .ok (.invokevirtual 15, 3) := by decide +kernel
theorem d_PR_index_9 : decode c_PR_index 9 = .ok (.ifCond .eq 5, 3) := by decide +kernel
theorem d_PR_index_12 : decode c_PR_index 12 = .ok (.iconst 0, 1) := by decide +kernel
theorem d_PR_index_13 : decode c_PR_index 13 = .ok (.ireturn, 1) := by decide +kernel
theorem d_PR_index_14 : decode c_PR_index 14 = .ok (.aload_n 0, 1) := by decide +kernel
theorem d_PR_index_15 : decode c_PR_index 15 = .ok (.getfield 9, 3) := by decide +kernel
theorem d_PR_index_18 : decode c_PR_index 18 = .ok (.bipush 45, 2) := by decide +kernel
theorem d_PR_index_20 : decode c_PR_index 20 = .ok (.invokevirtual 15, 3) := by decide +kernel
theorem d_PR_index_23 : decode c_PR_index 23 = .ok (.istore_n 1, 1) := by decide +kernel
theorem d_PR_index_24 : decode c_PR_index 24 = .ok (.iconst 0, 1) := by decide +kernel
theorem d_PR_index_25 : decode c_PR_index 25 = .ok (.istore_n 2, 1) := by decide +kernel
theorem d_PR_index_26 : decode c_PR_index 26 = .ok (.iconst 0, 1) := by decide +kernel
theorem d_PR_index_27 : decode c_PR_index 27 = .ok (.istore_n 3, 1) := by decide +kernel
theorem d_PR_index_28 : decode c_PR_index 28 = .ok (.iload_n 3, 1) := by decide +kernel
theorem d_PR_index_29 : decode c_PR_index 29 = .ok (.iconst 3, 1) := by decide +kernel
theorem d_PR_index_30 : decode c_PR_index 30 = .ok (.if_icmp .ge 67, 3) := by decide +kernel
theorem d_PR_index_33 : decode c_PR_index 33 = .ok (.aload_n 0, 1) := by decide +kernel
theorem d_PR_index_34 : decode c_PR_index 34 = .ok (.getfield 9, 3) := by decide +kernel
theorem d_PR_index_37 : decode c_PR_index 37 = .ok (.invokevirtual 24, 3) := by decide +kernel
theorem d_PR_index_40 : decode c_PR_index 40 = .ok (.invokestatic 106, 3) := by decide +kernel
theorem d_PR_index_43 : decode c_PR_index 43 = .ok (.ifCond .eq 54, 3) := by decide +kernel
theorem d_PR_index_46 : decode c_PR_index 46 = .ok (.aload_n 0, 1) := by decide +kernel
theorem d_PR_index_47 : decode c_PR_index 47 = .ok (.getfield 9, 3) := by decide +kernel
theorem d_PR_index_50 : decode c_PR_index 50 = .ok (.invokevirtual 24, 3) := by decide +kernel
theorem d_PR_index_53 : decode c_PR_index 53 = .ok (.istore 4, 2) := by decide +kernel
theorem d_PR_index_55 : decode c_PR_index 55 = .ok (.aload_n 0, 1) := by decide +kernel
theorem d_PR_index_56 : decode c_PR_index 56 = .ok (.getfield 9, 3) := by decide +kernel
theorem d_PR_index_59 : decode c_PR_index 59 = .ok (.iload 4, 2) := by decide +kernel
theorem d_PR_index_61 : decode c_PR_index 61 = .ok (.invokevirtual 15, 3) := by decide +kernel
theorem d_PR_index_64 : decode c_PR_index 64 = .ok (.pop, 1) := by decide +kernel
theorem d_PR_index_65 : decode c_PR_index 65 = .ok (.iload_n 2, 1) := by decide +kernel
theorem d_PR_index_66 : decode c_PR_index 66 = .ok (.ifCond .ne 14, 3) := by decide +kernel
theorem d_PR_index_69 : decode c_PR_index 69 = .ok (.iload 4, 2) := by decide +kernel
theorem d_PR_index_71 : decode c_PR_index 71 = .ok (.bipush 48, 2) := by decide +kernel
theorem d_PR_index_73 : decode c_PR_index 73 = .ok (.if_icmp .ne 7, 3) := by decide +kernel
theorem d_PR_index_76 : decode c_PR_index 76 = .ok (.sipush 1001, 3) := by decide +kernel
theorem d_PR_index_79 : decode c_PR_index 79 = .ok (.ireturn, 1) := by decide +kernel
theorem d_PR_index_80 : decode c_PR_index 80 = .ok (.iload_n 2, 1) := by decide +kernel
theorem d_PR_index_81 : decode c_PR_index 81 = .ok (.bipush 10, 2) := by decide +kernel
theorem d_PR_index_83 : decode c_PR_index 83 = .ok (.imul, 1) := by decide +kernel
theorem d_PR_index_84 : decode c_PR_index 84 = .ok (.iload 4, 2) := by decide +kernel
theorem d_PR_index_86 : decode c_PR_index 86 = .ok (.iadd, 1) := by decide +kernel
theorem d_PR_index_87 : decode c_PR_index 87 = .ok (.bipush 48, 2) := by decide +kernel
theorem d_PR_index_89 : decode c_PR_index 89 = .ok (.isub, 1) := by decide +kernel
theorem d_PR_index_90 : decode c_PR_index 90 = .ok (.istore_n 2, 1) := by decide +kernel
theorem d_PR_index_91 : decode c_PR_index 91 = .ok (.iinc 3 1, 3) := by decide +kernel
theorem d_PR_index_94 : decode c_PR_index 94 = .ok (.goto (-66), 3) := by decide +kernel
theorem d_PR_index_97 : decode c_PR_index 97 = .ok (.iload_n 2, 1) := by decide +kernel
theorem d_PR_index_98 : decode c_PR_index 98 = .ok (.ifCond .ne 17, 3) := by decide +kernel
theorem d_PR_index_101 : decode c_PR_index 101 = .ok (.iload_n 1, 1) := by decide +kernel
theorem d_PR_index_102 : decode c_PR_index 102 = .ok (.ifCond .eq 9, 3) := by decide +kernel
theorem d_PR_index_105 : decode c_PR_index 105 = .ok (.sipush 1001, 3) := by decide +kernel
theorem d_PR_index_108 : decode c_PR_index 108 = .ok (.goto 6, 3) := by decide +kernel
theorem d_PR_index_111 : decode c_PR_index 111 = .ok (.sipush 1000, 3) := by decide +kernel
theorem d_PR_index_114 : decode c_PR_index 114 = .ok (.ireturn, 1) := by decide +kernel
theorem d_PR_index_115 : decode c_PR_index 115 = .ok (.iload_n 1, 1) := by decide +kernel
theorem d_PR_index_116 : decode c_PR_index 116 = .ok (.ifCond .eq 8, 3) := by decide +kernel
theorem d_PR_index_119 : decode c_PR_index 119 = .ok (.iload_n 2, 1) := by decide +kernel
theorem d_PR_index_120 : decode c_PR_index 120 = .ok (.ineg, 1) := by decide +kernel
theorem d_PR_index_121 : decode c_PR_index 121 = .ok (.goto 4, 3) := by decide +kernel
theorem d_PR_index_124 : decode c_PR_index 124 = .ok (.iload_n 2, 1) := by decide +kernel
theorem d_PR_index_125 : decode c_PR_index 125 = .ok (.ireturn, 1) := by decide +kernel
def ws_PR_index : List Cond := .code y_PR_index c_PR_index 5 (some .int) :: TBL
theorem d_SE_indexed_0 : decode c_SE_indexed 0 = .ok (.iload_n 0, 1) := by decide +kernel
theorem d_SE_indexed_1 : decode c_SE_indexed 1 = .ok (.sipush 1000, 3) := by decide +kernel
theorem d_SE_indexed_4 : decode c_SE_indexed 4 = .ok (.if_icmp .eq 10, 3) := by decide +kernel
theorem d_SE_indexed_7 : decode c_SE_indexed 7 = .ok (.iload_n 0, 1) := by decide +kernel
theorem d_SE_indexed_8 : decode c_SE_indexed 8 = .ok (.sipush 1001, 3) := by decide +kernel
theorem d_SE_indexed_11 : decode c_SE_indexed 11 = .ok (.if_icmp .ne 7, 3) := by decide +kernel
theorem d_SE_indexed_14 : decode c_SE_indexed 14 = .ok (.aconst_null, 1) := by decide +kernel
theorem d_SE_indexed_15 : decode c_SE_indexed 15 = .ok (.goto 17, 3) := by decide +kernel
theorem d_SE_indexed_18 : decode c_SE_indexed 18 = .ok (.new 8, 3) := by decide +kernel
theorem d_SE_indexed_21 : decode c_SE_indexed 21 = .ok (.dup, 1) := by decide +kernel
theorem d_SE_indexed_22 : decode c_SE_indexed 22 = .ok (.iconst 2, 1) := by decide +kernel
theorem d_SE_indexed_23 : decode c_SE_indexed 23 = .ok (.ldc 30, 2) := by decide +kernel
theorem d_SE_indexed_25 : decode c_SE_indexed 25 = .ok (.iload_n 0, 1) := by decide +kernel
theorem d_SE_indexed_26 : decode c_SE_indexed 26 = .ok (.iconst 0, 1) := by decide +kernel
theorem d_SE_indexed_27 : decode c_SE_indexed 27 = .ok (.iconst 0, 1) := by decide +kernel
theorem d_SE_indexed_28 : decode c_SE_indexed 28 = .ok (.aconst_null, 1) := by decide +kernel
theorem d_SE_indexed_29 : decode c_SE_indexed 29 = .ok (.invokespecial 32, 3) := by decide +kernel
theorem d_SE_indexed_32 : decode c_SE_indexed 32 = .ok (.areturn, 1) := by decide +kernel
def ws_SE_indexed : List Cond := .code y_SE_indexed c_SE_indexed 1 (some (.object "PatchStore$Selector")) :: TBL
theorem d_PR_testBehind_0 : decode c_PR_testBehind 0 = .ok (.aload_n 0, 1) := by decide +kernel
theorem d_PR_testBehind_1 : decode c_PR_testBehind 1 = .ok (.getfield 9, 3) := by decide +kernel
theorem d_PR_testBehind_4 : decode c_PR_testBehind 4 = .ok (.invokevirtual 45, 3) := by decide +kernel
theorem d_PR_testBehind_7 : decode c_PR_testBehind 7 = .ok (.aload_n 0, 1) := by decide +kernel
theorem d_PR_testBehind_8 : decode c_PR_testBehind 8 = .ok (.invokevirtual 109, 3) := by decide +kernel
theorem d_PR_testBehind_11 : decode c_PR_testBehind 11 = .ok (.istore_n 2, 1) := by decide +kernel
theorem d_PR_testBehind_12 : decode c_PR_testBehind 12 = .ok (.iload_n 2, 1) := by decide +kernel
theorem d_PR_testBehind_13 : decode c_PR_testBehind 13 = .ok (.ifCond .ne 14, 3) := by decide +kernel
theorem d_PR_testBehind_16 : decode c_PR_testBehind 16 = .ok (.new 112, 3) := by decide +kernel
theorem d_PR_testBehind_19 : decode c_PR_testBehind 19 = .ok (.dup, 1) := by decide +kernel
theorem d_PR_testBehind_20 : decode c_PR_testBehind 20 = .ok (.aload_n 1, 1) := by decide +kernel
theorem d_PR_testBehind_21 : decode c_PR_testBehind 21 = .ok (.iload_n 2, 1) := by decide +kernel
theorem d_PR_testBehind_22 : decode c_PR_testBehind 22 = .ok (.aconst_null, 1) := by decide +kernel
theorem d_PR_testBehind_23 : decode c_PR_testBehind 23 = .ok (.invokespecial 114, 3) := by decide +kernel
theorem d_PR_testBehind_26 : decode c_PR_testBehind 26 = .ok (.areturn, 1) := by decide +kernel
theorem d_PR_testBehind_27 : decode c_PR_testBehind 27 = .ok (.iload_n 2, 1) := by decide +kernel
theorem d_PR_testBehind_28 : decode c_PR_testBehind 28 = .ok (.iconst (-1), 1) := by decide +kernel
theorem d_PR_testBehind_29 : decode c_PR_testBehind 29 = .ok (.if_icmp .ne 5, 3) := by decide +kernel
theorem d_PR_testBehind_32 : decode c_PR_testBehind 32 = .ok (.aconst_null, 1) := by decide +kernel
theorem d_PR_testBehind_33 : decode c_PR_testBehind 33 = .ok (.areturn, 1) := by decide +kernel
theorem d_PR_testBehind_34 : decode c_PR_testBehind 34 = .ok (.aload_n 0, 1) := by decide +kernel
theorem d_PR_testBehind_35 : decode c_PR_testBehind 35 = .ok (.getfield 9, 3) := by decide +kernel
theorem d_PR_testBehind_38 : decode c_PR_testBehind 38 = .ok (.invokevirtual 45, 3) := by decide +kernel
theorem d_PR_testBehind_41 : decode c_PR_testBehind 41 = .ok (.aconst_null, 1) := by decide +kernel
theorem d_PR_testBehind_42 : decode c_PR_testBehind 42 = .ok (.astore_n 3, 1) := by decide +kernel
theorem d_PR_testBehind_43 : decode c_PR_testBehind 43 = .ok (.aload_n 0, 1) := by decide +kernel
theorem d_PR_testBehind_44 : decode c_PR_testBehind 44 = .ok (.getfield 9, 3) := by decide +kernel
theorem d_PR_testBehind_47 : decode c_PR_testBehind 47 = .ok (.invokevirtual 88, 3) := by decide +kernel
theorem d_PR_testBehind_50 : decode c_PR_testBehind 50 = .ok (.ifCond .eq 36, 3) := by decide +kernel
theorem d_PR_testBehind_53 : decode c_PR_testBehind 53 = .ok (.aload_n 0, 1) := by decide +kernel
theorem d_PR_testBehind_54 : decode c_PR_testBehind 54 = .ok (.getfield 9, 3) := by decide +kernel
theorem d_PR_testBehind_57 : decode c_PR_testBehind 57 = .ok (.invokevirtual 91, 3) := by decide +kernel
theorem d_PR_testBehind_60 : decode c_PR_testBehind 60 = .ok (.astore 4, 2) := by decide +kernel
theorem d_PR_testBehind_62 : decode c_PR_testBehind 62 = .ok (.aload 4, 2) := by decide +kernel
theorem d_PR_testBehind_64 : decode c_PR_testBehind 64 = .ok (.ifnonnull 7, 3) := by decide +kernel
theorem d_PR_testBehind_67 : decode c_PR_testBehind 67 = .ok (.aconst_null, 1) := by decide +kernel
theorem d_PR_testBehind_68 : decode c_PR_testBehind 68 = .ok (.goto 14, 3) := by decide +kernel
theorem d_PR_testBehind_71 : decode c_PR_testBehind 71 = .ok (.new 117, 3) := by decide +kernel
theorem d_PR_testBehind_74 : decode c_PR_testBehind 74 = .ok (.dup, 1) := by decide +kernel
theorem d_PR_testBehind_75 : decode c_PR_testBehind 75 = .ok (.iconst 2, 1) := by decide +kernel
theorem d_PR_testBehind_76 : decode c_PR_testBehind 76 = .ok (.aload 4, 2) := by decide +kernel
theorem d_PR_testBehind_78 : decode c_PR_testBehind 78 = .ok (.lconst 0, 1) := by decide +kernel
theorem d_PR_testBehind_79 : decode c_PR_testBehind 79 = .ok (.invokespecial 119, 3) := by decide +kernel
theorem d_PR_testBehind_82 : decode c_PR_testBehind 82 = .ok (.astore_n 3, 1) := by decide +kernel
theorem d_PR_testBehind_83 : decode c_PR_testBehind 83 = .ok (.goto 31, 3) := by decide +kernel
theorem d_PR_testBehind_86 : decode c_PR_testBehind 86 = .ok (.aload_n 0, 1) := by decide +kernel
theorem d_PR_testBehind_87 : decode c_PR_testBehind 87 = .ok (.getfield 9, 3) := by decide +kernel
theorem d_PR_testBehind_90 : decode c_PR_testBehind 90 = .ok (.invokevirtual 122, 3) := by decide +kernel
theorem d_PR_testBehind_93 : decode c_PR_testBehind 93 = .ok (.ifCond .eq 13, 3) := by decide +kernel
theorem d_PR_testBehind_96 : decode c_PR_testBehind 96 = .ok (.aload_n 0, 1) := by decide +kernel
theorem d_PR_testBehind_97 : decode c_PR_testBehind 97 = .ok (.getfield 9, 3) := by decide +kernel
theorem d_PR_testBehind_100 : decode c_PR_testBehind 100 = .ok (.invokevirtual 125, 3) := by decide +kernel
theorem d_PR_testBehind_103 : decode c_PR_testBehind 103 = .ok (.goto 10, 3) := by decide +kernel
theorem d_PR_testBehind_106 : decode c_PR_testBehind 106 = .ok (.aload_n 0, 1) := by decide +kernel
theorem d_PR_testBehind_107 : decode c_PR_testBehind 107 = .ok (.getfield 9, 3) := by decide +kernel
theorem d_PR_testBehind_110 : decode c_PR_testBehind 110 = .ok (.invokevirtual 129, 3) := by decide +kernel
theorem d_PR_testBehind_113 : decode c_PR_testBehind 113 = .ok (.astore_n 3, 1) := by decide +kernel
theorem d_PR_testBehind_114 : decode c_PR_testBehind 114 = .ok (.aload_n 3, 1) := by decide +kernel
theorem d_PR_testBehind_115 : decode c_PR_testBehind 115 = .ok (.ifnonnull 7, 3) := by decide +kernel
theorem d_PR_testBehind_118 : decode c_PR_testBehind 118 = .ok (.aconst_null, 1) := by decide +kernel
theorem d_PR_testBehind_119 : decode c_PR_testBehind 119 = .ok (.goto 13, 3) := by decide +kernel
theorem d_PR_testBehind_122 : decode c_PR_testBehind 122 = .ok (.new 112, 3) := by decide +kernel
theorem d_PR_testBehind_125 : decode c_PR_testBehind 125 = .ok (.dup, 1) := by decide +kernel
theorem d_PR_testBehind_126 : decode c_PR_testBehind 126 = .ok (.aload_n 1, 1) := by decide +kernel
theorem d_PR_testBehind_127 : decode c_PR_testBehind 127 = .ok (.iload_n 2, 1) := by decide +kernel
theorem d_PR_testBehind_128 : decode c_PR_testBehind 128 = .ok (.aload_n 3, 1) := by decide +kernel
theorem d_PR_testBehind_129 : decode c_PR_testBehind 129 = .ok (.invokespecial 114, 3) := by decide +kernel
theorem d_PR_testBehind_132 : decode c_PR_testBehind 132 = .ok (.areturn, 1) := by decide +kernel
def ws_PR_testBehind : List Cond := .code y_PR_testBehind c_PR_testBehind 5 (some (.object "PatchStore$Test")) :: TBL
theorem d_PR_sign_0 : decode c_PR_sign 0 = .ok (.aload_n 0, 1) := by decide +kernel
theorem d_PR_sign_1 : decode c_PR_sign 1 = .ok (.getfield 9, 3) := by decide +kernel
theorem d_PR_sign_4 : decode c_PR_sign 4 = .ok (.bipush 60, 2) := by decide +kernel
theorem d_PR_sign_6 : decode c_PR_sign 6 = .ok (.invokevirtual 15, 3) := by decide +kernel
theorem d_PR_sign_9 : decode c_PR_sign 9 = .ok (.ifCond .eq 21, 3) := by decide +kernel
theorem d_PR_sign_12 : decode c_PR_sign 12 = .ok (.aload_n 0, 1) := by decide +kernel
theorem d_PR_sign_13 : decode c_PR_sign 13 = .ok (.getfield 9, 3) := by decide +kernel
theorem d_PR_sign_16 : decode c_PR_sign 16 = .ok (.bipush 61, 2) := by decide +kernel
theorem d_PR_sign_18 : decode c_PR_sign 18 = .ok (.invokevirtual 15, 3) := by decide +kernel
theorem d_PR_sign_21 : decode c_PR_sign 21 = .ok (.ifCond .eq 7, 3) := by decide +kernel
theorem d_PR_sign_24 : decode c_PR_sign 24 = .ok (.iconst 4, 1) := by decide +kernel
theorem d_PR_sign_25 : decode c_PR_sign 25 = .ok (.goto 4, 3) := by decide +kernel
theorem d_PR_sign_28 : decode c_PR_sign 28 = .ok (.iconst 3, 1) := by decide +kernel
theorem d_PR_sign_29 : decode c_PR_sign 29 = .ok (.ireturn, 1) := by decide +kernel
theorem d_PR_sign_30 : decode c_PR_sign 30 = .ok (.aload_n 0, 1) := by decide +kernel
theorem d_PR_sign_31 : decode c_PR_sign 31 = .ok (.getfield 9, 3) := by decide +kernel
theorem d_PR_sign_34 : decode c_PR_sign 34 = .ok (.bipush 62, 2) := by decide +kernel
theorem d_PR_sign_36 : decode c_PR_sign 36 = .ok (.invokevirtual 15, 3) := by decide +kernel
theorem d_PR_sign_39 : decode c_PR_sign 39 = .ok (.ifCond .eq 22, 3) := by decide +kernel
theorem d_PR_sign_42 : decode c_PR_sign 42 = .ok (.aload_n 0, 1) := by decide +kernel
theorem d_PR_sign_43 : decode c_PR_sign 43 = .ok (.getfield 9, 3) := by decide +kernel
theorem d_PR_sign_46 : decode c_PR_sign 46 = .ok (.bipush 61, 2) := by decide +kernel
theorem d_PR_sign_48 : decode c_PR_sign 48 = .ok (.invokevirtual 15, 3) := by decide +kernel
theorem d_PR_sign_51 : decode c_PR_sign 51 = .ok (.ifCond .eq 8, 3) := by decide +kernel
theorem d_PR_sign_54 : decode c_PR_sign 54 = .ok (.bipush 6, 2) := by decide +kernel
theorem d_PR_sign_56 : decode c_PR_sign 56 = .ok (.goto 4, 3) := by decide +kernel
theorem d_PR_sign_59 : decode c_PR_sign 59 = .ok (.iconst 5, 1) := by decide +kernel
theorem d_PR_sign_60 : decode c_PR_sign 60 = .ok (.ireturn, 1) := by decide +kernel
theorem d_PR_sign_61 : decode c_PR_sign 61 = .ok (.aload_n 0, 1) := by decide +kernel
theorem d_PR_sign_62 : decode c_PR_sign 62 = .ok (.getfield 9, 3) := by decide +kernel
theorem d_PR_sign_65 : decode c_PR_sign 65 = .ok (.bipush 61, 2) := by decide +kernel
theorem d_PR_sign_67 : decode c_PR_sign 67 = .ok (.invokevirtual 15, 3) := by decide +kernel
theorem d_PR_sign_70 : decode c_PR_sign 70 = .ok (.ifCond .eq 21, 3) := by decide +kernel
theorem d_PR_sign_73 : decode c_PR_sign 73 = .ok (.aload_n 0, 1) := by decide +kernel
theorem d_PR_sign_74 : decode c_PR_sign 74 = .ok (.getfield 9, 3) := by decide +kernel
theorem d_PR_sign_77 : decode c_PR_sign 77 = .ok (.bipush 61, 2) := by decide +kernel
theorem d_PR_sign_79 : decode c_PR_sign 79 = .ok (.invokevirtual 15, 3) := by decide +kernel
theorem d_PR_sign_82 : decode c_PR_sign 82 = .ok (.ifCond .eq 7, 3) := by decide +kernel
theorem d_PR_sign_85 : decode c_PR_sign 85 = .ok (.iconst 1, 1) := by decide +kernel
theorem d_PR_sign_86 : decode c_PR_sign 86 = .ok (.goto 4, 3) := by decide +kernel
theorem d_PR_sign_89 : decode c_PR_sign 89 = .ok (.iconst (-1), 1) := by decide +kernel
theorem d_PR_sign_90 : decode c_PR_sign 90 = .ok (.ireturn, 1) := by decide +kernel
theorem d_PR_sign_91 : decode c_PR_sign 91 = .ok (.aload_n 0, 1) := by decide +kernel
theorem d_PR_sign_92 : decode c_PR_sign 92 = .ok (.getfield 9, 3) := by decide +kernel
theorem d_PR_sign_95 : decode c_PR_sign 95 = .ok (.bipush 33, 2) := by decide +kernel
theorem d_PR_sign_97 : decode c_PR_sign 97 = .ok (.invokevirtual 15, 3) := by decide +kernel
theorem d_PR_sign_100 : decode c_PR_sign 100 = .ok (.ifCond .eq 21, 3) := by decide +kernel
theorem d_PR_sign_103 : decode c_PR_sign 103 = .ok (.aload_n 0, 1) := by decide +kernel
theorem d_PR_sign_104 : decode c_PR_sign 104 = .ok (.getfield 9, 3) := by decide +kernel
theorem d_PR_sign_107 : decode c_PR_sign 107 = .ok (.bipush 61, 2) := by decide +kernel
theorem d_PR_sign_109 : decode c_PR_sign 109 = .ok (.invokevirtual 15, 3) := by decide +kernel
theorem d_PR_sign_112 : decode c_PR_sign 112 = .ok (.ifCond .eq 7, 3) := by decide +kernel
theorem d_PR_sign_115 : decode c_PR_sign 115 = .ok (.iconst 2, 1) := by decide +kernel
theorem d_PR_sign_116 : decode c_PR_sign 116 = .ok (.goto 4, 3) := by decide +kernel
theorem d_PR_sign_119 : decode c_PR_sign 119 = .ok (.iconst (-1), 1) := by decide +kernel
theorem d_PR_sign_120 : decode c_PR_sign 120 = .ok (.ireturn, 1) := by decide +kernel
theorem d_PR_sign_121 : decode c_PR_sign 121 = .ok (.iconst 0, 1) := by decide +kernel
theorem d_PR_sign_122 : decode c_PR_sign 122 = .ok (.ireturn, 1) := by decide +kernel
def ws_PR_sign : List Cond := .code y_PR_sign c_PR_sign 1 (some .int) :: TBL
theorem d_TE_init_0 : decode c_TE_init 0 = .ok (.aload_n 0, 1) := by decide +kernel
theorem d_TE_init_1 : decode c_TE_init 1 = .ok (.invokespecial 1, 3) := by decide +kernel
theorem d_TE_init_4 : decode c_TE_init 4 = .ok (.aload_n 0, 1) := by decide +kernel
theorem d_TE_init_5 : decode c_TE_init 5 = .ok (.aload_n 1, 1) := by decide +kernel
theorem d_TE_init_6 : decode c_TE_init 6 = .ok (.putfield 7, 3) := by decide +kernel
theorem d_TE_init_9 : decode c_TE_init 9 = .ok (.aload_n 0, 1) := by decide +kernel
theorem d_TE_init_10 : decode c_TE_init 10 = .ok (.iload_n 2, 1) := by decide +kernel
theorem d_TE_init_11 : decode c_TE_init 11 = .ok (.putfield 13, 3) := by decide +kernel
theorem d_TE_init_14 : decode c_TE_init 14 = .ok (.aload_n 0, 1) := by decide +kernel
theorem d_TE_init_15 : decode c_TE_init 15 = .ok (.aload_n 3, 1) := by decide +kernel
theorem d_TE_init_16 : decode c_TE_init 16 = .ok (.putfield 17, 3) := by decide +kernel
theorem d_TE_init_19 : decode c_TE_init 19 = .ok (.return_, 1) := by decide +kernel
def ws_TE_init : List Cond := .code y_TE_init c_TE_init 4 none :: TBL
theorem d_SE_tested_0 : decode c_SE_tested 0 = .ok (.aload_n 0, 1) := by decide +kernel
theorem d_SE_tested_1 : decode c_SE_tested 1 = .ok (.ifnonnull 7, 3) := by decide +kernel
theorem d_SE_tested_4 : decode c_SE_tested 4 = .ok (.aconst_null, 1) := by decide +kernel
theorem d_SE_tested_5 : decode c_SE_tested 5 = .ok (.goto 17, 3) := by decide +kernel
theorem d_SE_tested_8 : decode c_SE_tested 8 = .ok (.new 8, 3) := by decide +kernel
theorem d_SE_tested_11 : decode c_SE_tested 11 = .ok (.dup, 1) := by decide +kernel
theorem d_SE_tested_12 : decode c_SE_tested 12 = .ok (.iconst 4, 1) := by decide +kernel
theorem d_SE_tested_13 : decode c_SE_tested 13 = .ok (.ldc 30, 2) := by decide +kernel
theorem d_SE_tested_15 : decode c_SE_tested 15 = .ok (.iconst 0, 1) := by decide +kernel
theorem d_SE_tested_16 : decode c_SE_tested 16 = .ok (.iconst 0, 1) := by decide +kernel
theorem d_SE_tested_17 : decode c_SE_tested 17 = .ok (.iconst 0, 1) := by decide +kernel
theorem d_SE_tested_18 : decode c_SE_tested 18 = .ok (.aload_n 0, 1) := by decide +kernel
theorem d_SE_tested_19 : decode c_SE_tested 19 = .ok (.invokespecial 32, 3) := by decide +kernel
theorem d_SE_tested_22 : decode c_SE_tested 22 = .ok (.areturn, 1) := by decide +kernel
def ws_SE_tested : List Cond := .code y_SE_tested c_SE_tested 1 (some (.object "PatchStore$Selector")) :: TBL
theorem d_SE_slice_0 : decode c_SE_slice 0 = .ok (.iload_n 0, 1) := by decide +kernel
theorem d_SE_slice_1 : decode c_SE_slice 1 = .ok (.sipush 1001, 3) := by decide +kernel
theorem d_SE_slice_4 : decode c_SE_slice 4 = .ok (.if_icmp .eq 17, 3) := by decide +kernel
theorem d_SE_slice_7 : decode c_SE_slice 7 = .ok (.iload_n 1, 1) := by decide +kernel
theorem d_SE_slice_8 : decode c_SE_slice 8 = .ok (.sipush 1001, 3) := by decide +kernel
theorem d_SE_slice_11 : decode c_SE_slice 11 = .ok (.if_icmp .eq 10, 3) := by decide +kernel
theorem d_SE_slice_14 : decode c_SE_slice 14 = .ok (.iload_n 2, 1) := by decide +kernel
theorem d_SE_slice_15 : decode c_SE_slice 15 = .ok (.sipush 1001, 3) := by decide +kernel
theorem d_SE_slice_18 : decode c_SE_slice 18 = .ok (.if_icmp .ne 7, 3) := by decide +kernel
theorem d_SE_slice_21 : decode c_SE_slice 21 = .ok (.iconst 1, 1) := by decide +kernel
theorem d_SE_slice_22 : decode c_SE_slice 22 = .ok (.goto 4, 3) := by decide +kernel
theorem d_SE_slice_25 : decode c_SE_slice 25 = .ok (.iconst 0, 1) := by decide +kernel
theorem d_SE_slice_26 : decode c_SE_slice 26 = .ok (.istore_n 3, 1) := by decide +kernel
theorem d_SE_slice_27 : decode c_SE_slice 27 = .ok (.iload_n 3, 1) := by decide +kernel
theorem d_SE_slice_28 : decode c_SE_slice 28 = .ok (.ifCond .eq 7, 3) := by decide +kernel
theorem d_SE_slice_31 : decode c_SE_slice 31 = .ok (.aconst_null, 1) := by decide +kernel
theorem d_SE_slice_32 : decode c_SE_slice 32 = .ok (.goto 17, 3) := by decide +kernel
theorem d_SE_slice_35 : decode c_SE_slice 35 = .ok (.new 8, 3) := by decide +kernel
theorem d_SE_slice_38 : decode c_SE_slice 38 = .ok (.dup, 1) := by decide +kernel
theorem d_SE_slice_39 : decode c_SE_slice 39 = .ok (.iconst 3, 1) := by decide +kernel
theorem d_SE_slice_40 : decode c_SE_slice 40 = .ok (.ldc 30, 2) := by decide +kernel
theorem d_SE_slice_42 : decode c_SE_slice 42 = .ok (.iload_n 0, 1) := by decide +kernel
theorem d_SE_slice_43 : decode c_SE_slice 43 = .ok (.iload_n 1, 1) := by decide +kernel
theorem d_SE_slice_44 : decode c_SE_slice 44 = .ok (.iload_n 2, 1) := by decide +kernel
theorem d_SE_slice_45 : decode c_SE_slice 45 = .ok (.aconst_null, 1) := by decide +kernel
theorem d_SE_slice_46 : decode c_SE_slice 46 = .ok (.invokespecial 32, 3) := by decide +kernel
theorem d_SE_slice_49 : decode c_SE_slice 49 = .ok (.areturn, 1) := by decide +kernel
def ws_SE_slice : List Cond := .code y_SE_slice c_SE_slice 4 (some (.object "PatchStore$Selector")) :: TBL
theorem d_SG_nextList_0 : decode c_SG_nextList 0 = .ok (.new 9, 3) := by decide +kernel
theorem d_SG_nextList_3 : decode c_SG_nextList 3 = .ok (.dup, 1) := by decide +kernel
theorem d_SG_nextList_4 : decode c_SG_nextList 4 = .ok (.invokespecial 11, 3) := by decide +kernel
theorem d_SG_nextList_7 : decode c_SG_nextList 7 = .ok (.astore_n 2, 1) := by decide +kernel
theorem d_SG_nextList_8 : decode c_SG_nextList 8 = .ok (.iconst 0, 1) := by decide +kernel
theorem d_SG_nextList_9 : decode c_SG_nextList 9 = .ok (.istore_n 3, 1) := by decide +kernel
theorem d_SG_nextList_10 : decode c_SG_nextList 10 = .ok (.iload_n 3, 1) := by decide +kernel
theorem d_SG_nextList_11 : decode c_SG_nextList 11 = .ok (.aload_n 1, 1) := by decide +kernel
theorem d_SG_nextList_12 : decode c_SG_nextList 12 = .ok (.invokevirtual 26, 3) := by decide +kernel
theorem d_SG_nextList_15 : decode c_SG_nextList 15 = .ok (.if_icmp .ge 27, 3) := by decide +kernel
theorem d_SG_nextList_18 : decode c_SG_nextList 18 = .ok (.aload_n 0, 1) := by decide +kernel
theorem d_SG_nextList_19 : decode c_SG_nextList 19 = .ok (.aload_n 1, 1) := by decide +kernel
theorem d_SG_nextList_20 : decode c_SG_nextList 20 = .ok (.iload_n 3, 1) := by decide +kernel
theorem d_SG_nextList_21 : decode c_SG_nextList 21 = .ok (.invokevirtual 30, 3) := by decide +kernel
theorem d_SG_nextList_24 : decode c_SG_nextList 24 = .ok (.checkcast 34, 3) := by decide +kernel
theorem d_SG_nextList_27 : decode c_SG_nextList 27 = .ok (.aload_n 2, 1) := by decide +kernel
theorem d_SG_nextList_28 : decode c_SG_nextList 28 = .ok (.invokestatic 36, 3) := by decide +kernel
theorem d_SG_nextList_31 : decode c_SG_nextList 31 = .ok (.ifCond .ne 5, 3) := by decide +kernel
theorem d_SG_nextList_34 : decode c_SG_nextList 34 = .ok (.aconst_null, 1) := by decide +kernel
theorem d_SG_nextList_35 : decode c_SG_nextList 35 = .ok (.areturn, 1) := by decide +kernel
theorem d_SG_nextList_36 : decode c_SG_nextList 36 = .ok (.iinc 3 1, 3) := by decide +kernel
theorem d_SG_nextList_39 : decode c_SG_nextList 39 = .ok (.goto (-29), 3) := by decide +kernel
theorem d_SG_nextList_42 : decode c_SG_nextList 42 = .ok (.aload_n 2, 1) := by decide +kernel
theorem d_SG_nextList_43 : decode c_SG_nextList 43 = .ok (.areturn, 1) := by decide +kernel
def ws_SG_nextList : List Cond := .code y_SG_nextList c_SG_nextList 4 (some (.object "java/util/ArrayList")) :: TBL
theorem d_SG_addChosen_0 : decode c_SG_addChosen 0 = .ok (.iconst 0, 1) := by decide +kernel
theorem d_SG_addChosen_1 : decode c_SG_addChosen 1 = .ok (.istore_n 3, 1) := by decide +kernel
theorem d_SG_addChosen_2 : decode c_SG_addChosen 2 = .ok (.iload_n 3, 1) := by decide +kernel
theorem d_SG_addChosen_3 : decode c_SG_addChosen 3 = .ok (.aload_n 0, 1) := by decide +kernel
theorem d_SG_addChosen_4 : decode c_SG_addChosen 4 = .ok (.getfield 12, 3) := by decide +kernel
theorem d_SG_addChosen_7 : decode c_SG_addChosen 7 = .ok (.invokevirtual 26, 3) := by decide +kernel
theorem d_SG_addChosen_10 : decode c_SG_addChosen 10 = .ok (.if_icmp .ge 36, 3) := by decide +kernel
theorem d_SG_addChosen_13 : decode c_SG_addChosen 13 = .ok (.aload_n 0, 1) := by decide +kernel
theorem d_SG_addChosen_14 : decode c_SG_addChosen 14 = .ok (.getfield 12, 3) := by decide +kernel
theorem d_SG_addChosen_17 : decode c_SG_addChosen 17 = .ok (.iload_n 3, 1) := by decide +kernel
theorem d_SG_addChosen_18 : decode c_SG_addChosen 18 = .ok (.invokevirtual 30, 3) := by decide +kernel
theorem d_SG_addChosen_21 : decode c_SG_addChosen 21 = .ok (.checkcast 40, 3) := by decide +kernel
theorem d_SG_addChosen_24 : decode c_SG_addChosen 24 = .ok (.aload_n 1, 1) := by decide +kernel
theorem d_SG_addChosen_25 : decode c_SG_addChosen 25 = .ok (.aload_n 2, 1) := by decide +kernel
theorem d_SG_addChosen_26 : decode c_SG_addChosen 26 = .ok (.invokevirtual 42, 3) := by decide +kernel
theorem d_SG_addChosen_29 : decode c_SG_addChosen 29 = .ok (.aload_n 2, 1) := by decide +kernel
theorem d_SG_addChosen_30 : decode c_SG_addChosen 30 = .ok (.invokevirtual 26, 3) := by decide +kernel
theorem d_SG_addChosen_33 : decode c_SG_addChosen 33 = .ok (.bipush 40, 2) := by decide +kernel
theorem d_SG_addChosen_35 : decode c_SG_addChosen 35 = .ok (.if_icmp .le 5, 3) := by decide +kernel
theorem d_SG_addChosen_38 : decode c_SG_addChosen 38 = .ok (.iconst 0, 1) := by decide +kernel
theorem d_SG_addChosen_39 : decode c_SG_addChosen 39 = .ok (.ireturn, 1) := by decide +kernel
theorem d_SG_addChosen_40 : decode c_SG_addChosen 40 = .ok (.iinc 3 1, 3) := by decide +kernel
theorem d_SG_addChosen_43 : decode c_SG_addChosen 43 = .ok (.goto (-41), 3) := by decide +kernel
theorem d_SG_addChosen_46 : decode c_SG_addChosen 46 = .ok (.iconst 0, 1) := by decide +kernel
theorem d_SG_addChosen_47 : decode c_SG_addChosen 47 = .ok (.istore_n 3, 1) := by decide +kernel
theorem d_SG_addChosen_48 : decode c_SG_addChosen 48 = .ok (.aload_n 0, 1) := by decide +kernel
theorem d_SG_addChosen_49 : decode c_SG_addChosen 49 = .ok (.getfield 18, 3) := by decide +kernel
theorem d_SG_addChosen_52 : decode c_SG_addChosen 52 = .ok (.ifCond .eq 41, 3) := by decide +kernel
theorem d_SG_addChosen_55 : decode c_SG_addChosen 55 = .ok (.iload_n 3, 1) := by decide +kernel
theorem d_SG_addChosen_56 : decode c_SG_addChosen 56 = .ok (.aload_n 1, 1) := by decide +kernel
theorem d_SG_addChosen_57 : decode c_SG_addChosen 57 = .ok (.getfield 46, 3) := by decide +kernel
theorem d_SG_addChosen_60 : decode c_SG_addChosen 60 = .ok (.invokevirtual 26, 3) := by decide +kernel
theorem d_SG_addChosen_63 : decode c_SG_addChosen 63 = .ok (.if_icmp .ge 30, 3) := by decide +kernel
theorem d_SG_addChosen_66 : decode c_SG_addChosen 66 = .ok (.aload_n 0, 1) := by decide +kernel
theorem d_SG_addChosen_67 : decode c_SG_addChosen 67 = .ok (.aload_n 1, 1) := by decide +kernel
theorem d_SG_addChosen_68 : decode c_SG_addChosen 68 = .ok (.getfield 46, 3) := by decide +kernel
theorem d_SG_addChosen_71 : decode c_SG_addChosen 71 = .ok (.iload_n 3, 1) := by decide +kernel
theorem d_SG_addChosen_72 : decode c_SG_addChosen 72 = .ok (.invokevirtual 30, 3) := by decide +kernel
theorem d_SG_addChosen_75 : decode c_SG_addChosen 75 = .ok (.checkcast 34, 3) := by decide +kernel
theorem d_SG_addChosen_78 : decode c_SG_addChosen 78 = .ok (.aload_n 2, 1) := by decide +kernel
theorem d_SG_addChosen_79 : decode c_SG_addChosen 79 = .ok (.invokestatic 36, 3) := by decide +kernel
theorem d_SG_addChosen_82 : decode c_SG_addChosen 82 = .ok (.ifCond .ne 5, 3) := by decide +kernel
theorem d_SG_addChosen_85 : decode c_SG_addChosen 85 = .ok (.iconst 0, 1) := by decide +kernel
theorem d_SG_addChosen_86 : decode c_SG_addChosen 86 = .ok (.ireturn, 1) := by decide +kernel
theorem d_SG_addChosen_87 : decode c_SG_addChosen 87 = .ok (.iinc 3 1, 3) := by decide +kernel
theorem d_SG_addChosen_90 : decode c_SG_addChosen 90 = .ok (.goto (-42), 3) := by decide +kernel
theorem d_SG_addChosen_93 : decode c_SG_addChosen 93 = .ok (.iconst 1, 1) := by decide +kernel
theorem d_SG_addChosen_94 : decode c_SG_addChosen 94 = .ok (.ireturn, 1) := by decide +kernel
def ws_SG_addChosen : List Cond := .code y_SG_addChosen c_SG_addChosen 4 (some .boolean) :: TBL
theorem d_SE_choose_0 : decode c_SE_choose 0 = .ok (.aload_n 0, 1) := by decide +kernel
theorem d_SE_choose_1 : decode c_SE_choose 1 = .ok (.getfield 7, 3) := by decide +kernel
theorem d_SE_choose_4 : decode c_SE_choose 4 = .ok (.iconst 3, 1) := by decide +kernel
theorem d_SE_choose_5 : decode c_SE_choose 5 = .ok (.if_icmp .ne 12, 3) := by decide +kernel
theorem d_SE_choose_8 : decode c_SE_choose 8 = .ok (.aload_n 0, 1) := by decide +kernel
theorem d_SE_choose_9 : decode c_SE_choose 9 = .ok (.aload_n 1, 1) := by decide +kernel
theorem d_SE_choose_10 : decode c_SE_choose 10 = .ok (.aload_n 2, 1) := by decide +kernel
theorem d_SE_choose_11 : decode c_SE_choose 11 = .ok (.invokevirtual 35, 3) := by decide +kernel
theorem d_SE_choose_14 : decode c_SE_choose 14 = .ok (.goto 95, 3) := by decide +kernel
theorem d_SE_choose_17 : decode c_SE_choose 17 = .ok (.aload_n 0, 1) := by decide +kernel
theorem d_SE_choose_18 : decode c_SE_choose 18 = .ok (.getfield 7, 3) := by decide +kernel
theorem d_SE_choose_21 : decode c_SE_choose 21 = .ok (.ifCond .eq 11, 3) := by decide +kernel
theorem d_SE_choose_24 : decode c_SE_choose 24 = .ok (.aload_n 0, 1) := by decide +kernel
theorem d_SE_choose_25 : decode c_SE_choose 25 = .ok (.getfield 7, 3) := by decide +kernel
theorem d_SE_choose_28 : decode c_SE_choose 28 = .ok (.iconst 4, 1) := by decide +kernel
theorem d_SE_choose_29 : decode c_SE_choose 29 = .ok (.if_icmp .ne 64, 3) := by decide +kernel
theorem d_SE_choose_32 : decode c_SE_choose 32 = .ok (.iconst 0, 1) := by decide +kernel
theorem d_SE_choose_33 : decode c_SE_choose 33 = .ok (.istore_n 3, 1) := by decide +kernel
theorem d_SE_choose_34 : decode c_SE_choose 34 = .ok (.iload_n 3, 1) := by decide +kernel
theorem d_SE_choose_35 : decode c_SE_choose 35 = .ok (.aload_n 1, 1) := by decide +kernel
theorem d_SE_choose_36 : decode c_SE_choose 36 = .ok (.getfield 39, 3) := by decide +kernel
theorem d_SE_choose_39 : decode c_SE_choose 39 = .ok (.invokevirtual 45, 3) := by decide +kernel
theorem d_SE_choose_42 : decode c_SE_choose 42 = .ok (.if_icmp .ge 48, 3) := by decide +kernel
theorem d_SE_choose_45 : decode c_SE_choose 45 = .ok (.aload_n 1, 1) := by decide +kernel
theorem d_SE_choose_46 : decode c_SE_choose 46 = .ok (.getfield 39, 3) := by decide +kernel
theorem d_SE_choose_49 : decode c_SE_choose 49 = .ok (.iload_n 3, 1) := by decide +kernel
theorem d_SE_choose_50 : decode c_SE_choose 50 = .ok (.invokevirtual 51, 3) := by decide +kernel
theorem d_SE_choose_53 : decode c_SE_choose 53 = .ok (.checkcast 40, 3) := by decide +kernel
theorem d_SE_choose_56 : decode c_SE_choose 56 = .ok (.astore 4, 2) := by decide +kernel
theorem d_SE_choose_58 : decode c_SE_choose 58 = .ok (.aload_n 0, 1) := by decide +kernel
theorem d_SE_choose_59 : decode c_SE_choose 59 = .ok (.getfield 26, 3) := by decide +kernel
theorem d_SE_choose_62 : decode c_SE_choose 62 = .ok (.ifnull 15, 3) := by decide +kernel
theorem d_SE_choose_65 : decode c_SE_choose 65 = .ok (.aload_n 0, 1) := by decide +kernel
theorem d_SE_choose_66 : decode c_SE_choose 66 = .ok (.getfield 26, 3) := by decide +kernel
theorem d_SE_choose_69 : decode c_SE_choose 69 = .ok (.aload 4, 2) := by decide +kernel
theorem d_SE_choose_71 : decode c_SE_choose 71 = .ok (.invokevirtual 55, 3) := by decide +kernel
theorem d_SE_choose_74 : decode c_SE_choose 74 = .ok (.ifCond .eq 10, 3) := by decide +kernel
theorem d_SE_choose_77 : decode c_SE_choose 77 = .ok (.aload_n 2, 1) := by decide +kernel
theorem d_SE_choose_78 : decode c_SE_choose 78 = .ok (.aload 4, 2) := by decide +kernel
theorem d_SE_choose_80 : decode c_SE_choose 80 = .ok (.invokevirtual 61, 3) := by decide +kernel
theorem d_SE_choose_83 : decode c_SE_choose 83 = .ok (.pop, 1) := by decide +kernel
theorem d_SE_choose_84 : decode c_SE_choose 84 = .ok (.iinc 3 1, 3) := by decide +kernel
theorem d_SE_choose_87 : decode c_SE_choose 87 = .ok (.goto (-53), 3) := by decide +kernel
theorem d_SE_choose_90 : decode c_SE_choose 90 = .ok (.goto 19, 3) := by decide +kernel
theorem d_SE_choose_93 : decode c_SE_choose 93 = .ok (.aload_n 0, 1) := by decide +kernel
theorem d_SE_choose_94 : decode c_SE_choose 94 = .ok (.aload_n 1, 1) := by decide +kernel
theorem d_SE_choose_95 : decode c_SE_choose 95 = .ok (.invokevirtual 65, 3) := by decide +kernel
theorem d_SE_choose_98 : decode c_SE_choose 98 = .ok (.astore_n 3, 1) := by decide +kernel
theorem d_SE_choose_99 : decode c_SE_choose 99 = .ok (.aload_n 3, 1) := by decide +kernel
theorem d_SE_choose_100 : decode c_SE_choose 100 = .ok (.ifnull 9, 3) := by decide +kernel
theorem d_SE_choose_103 : decode c_SE_choose 103 = .ok (.aload_n 2, 1) := by decide +kernel
theorem d_SE_choose_104 : decode c_SE_choose 104 = .ok (.aload_n 3, 1) := by decide +kernel
theorem d_SE_choose_105 : decode c_SE_choose 105 = .ok (.invokevirtual 61, 3) := by decide +kernel
theorem d_SE_choose_108 : decode c_SE_choose 108 = .ok (.pop, 1) := by decide +kernel
theorem d_SE_choose_109 : decode c_SE_choose 109 = .ok (.return_, 1) := by decide +kernel
def ws_SE_choose : List Cond := .code y_SE_choose c_SE_choose 5 none :: TBL
theorem d_SE_chooseSlice_0 : decode c_SE_chooseSlice 0 = .ok (.aload_n 0, 1) := by decide +kernel
theorem d_SE_chooseSlice_1 : decode c_SE_chooseSlice 1 = .ok (.getfield 23, 3) := by decide +kernel
theorem d_SE_chooseSlice_4 : decode c_SE_chooseSlice 4 = .ok (.sipush 1000, 3) := by decide +kernel
theorem d_SE_chooseSlice_7 : decode c_SE_chooseSlice 7 = .ok (.if_icmp .ne 7, 3) := by decide +kernel
theorem d_SE_chooseSlice_10 : decode c_SE_chooseSlice 10 = .ok (.iconst 1, 1) := by decide +kernel
theorem d_SE_chooseSlice_11 : decode c_SE_chooseSlice 11 = .ok (.goto 7, 3) := by decide +kernel
theorem d_SE_chooseSlice_14 : decode c_SE_chooseSlice 14 = .ok (.aload_n 0, 1) := by decide +kernel
theorem d_SE_chooseSlice_15 : decode c_SE_chooseSlice 15 = .ok (.getfield 23, 3) := by decide +kernel
theorem d_SE_chooseSlice_18 : decode c_SE_chooseSlice 18 = .ok (.istore_n 3, 1) := by decide +kernel
theorem d_SE_chooseSlice_19 : decode c_SE_chooseSlice 19 = .ok (.aload_n 1, 1) := by decide +kernel
theorem d_SE_chooseSlice_20 : decode c_SE_chooseSlice 20 = .ok (.getfield 77, 3) := by decide +kernel
theorem d_SE_chooseSlice_23 : decode c_SE_chooseSlice 23 = .ok (.iconst 3, 1) := by decide +kernel
theorem d_SE_chooseSlice_24 : decode c_SE_chooseSlice 24 = .ok (.if_icmp .ne 7, 3) := by decide +kernel
theorem d_SE_chooseSlice_27 : decode c_SE_chooseSlice 27 = .ok (.iload_n 3, 1) := by decide +kernel
theorem d_SE_chooseSlice_28 : decode c_SE_chooseSlice 28 = .ok (.ifCond .ne 4, 3) := by decide +kernel
theorem d_SE_chooseSlice_31 : decode c_SE_chooseSlice 31 = .ok (.return_, 1) := by decide +kernel
theorem d_SE_chooseSlice_32 : decode c_SE_chooseSlice 32 = .ok (.aload_n 1, 1) := by decide +kernel
theorem d_SE_chooseSlice_33 : decode c_SE_chooseSlice 33 = .ok (.getfield 39, 3) := by decide +kernel
theorem d_SE_chooseSlice_36 : decode c_SE_chooseSlice 36 = .ok (.invokevirtual 45, 3) := by decide +kernel
theorem d_SE_chooseSlice_39 : decode c_SE_chooseSlice 39 = .ok (.istore 4, 2) := by decide +kernel
theorem d_SE_chooseSlice_41 : decode c_SE_chooseSlice 41 = .ok (.iload_n 3, 1) := by decide +kernel
theorem d_SE_chooseSlice_42 : decode c_SE_chooseSlice 42 = .ok (.ifCond .le 70, 3) := by decide +kernel
theorem d_SE_chooseSlice_45 : decode c_SE_chooseSlice 45 = .ok (.aload_n 0, 1) := by decide +kernel
theorem d_SE_chooseSlice_46 : decode c_SE_chooseSlice 46 = .ok (.getfield 20, 3) := by decide +kernel
theorem d_SE_chooseSlice_49 : decode c_SE_chooseSlice 49 = .ok (.iload 4, 2) := by decide +kernel
theorem d_SE_chooseSlice_51 : decode c_SE_chooseSlice 51 = .ok (.iconst 0, 1) := by decide +kernel
theorem d_SE_chooseSlice_52 : decode c_SE_chooseSlice 52 = .ok (.iload 4, 2) := by decide +kernel
theorem d_SE_chooseSlice_54 : decode c_SE_chooseSlice 54 = .ok (.iload 4, 2) := by decide +kernel
theorem d_SE_chooseSlice_56 : decode c_SE_chooseSlice 56 = .ok (.invokestatic 78, 3) := by decide +kernel
theorem d_SE_chooseSlice_59 : decode c_SE_chooseSlice 59 = .ok (.istore 5, 2) := by decide +kernel
theorem d_SE_chooseSlice_61 : decode c_SE_chooseSlice 61 = .ok (.aload_n 0, 1) := by decide +kernel
theorem d_SE_chooseSlice_62 : decode c_SE_chooseSlice 62 = .ok (.getfield 17, 3) := by decide +kernel
theorem d_SE_chooseSlice_65 : decode c_SE_chooseSlice 65 = .ok (.iload 4, 2) := by decide +kernel
theorem d_SE_chooseSlice_67 : decode c_SE_chooseSlice 67 = .ok (.iconst 0, 1) := by decide +kernel
theorem d_SE_chooseSlice_68 : decode c_SE_chooseSlice 68 = .ok (.iload 4, 2) := by decide +kernel
theorem d_SE_chooseSlice_70 : decode c_SE_chooseSlice 70 = .ok (.iconst 0, 1) := by decide +kernel
theorem d_SE_chooseSlice_71 : decode c_SE_chooseSlice 71 = .ok (.invokestatic 78, 3) := by decide +kernel
theorem d_SE_chooseSlice_74 : decode c_SE_chooseSlice 74 = .ok (.istore 6, 2) := by decide +kernel
theorem d_SE_chooseSlice_76 : decode c_SE_chooseSlice 76 = .ok (.iload 6, 2) := by decide +kernel
theorem d_SE_chooseSlice_78 : decode c_SE_chooseSlice 78 = .ok (.iload 5, 2) := by decide +kernel
theorem d_SE_chooseSlice_80 : decode c_SE_chooseSlice 80 = .ok (.if_icmp .ge 29, 3) := by decide +kernel
theorem d_SE_chooseSlice_83 : decode c_SE_chooseSlice 83 = .ok (.aload_n 2, 1) := by decide +kernel
theorem d_SE_chooseSlice_84 : decode c_SE_chooseSlice 84 = .ok (.aload_n 1, 1) := by decide +kernel
theorem d_SE_chooseSlice_85 : decode c_SE_chooseSlice 85 = .ok (.getfield 39, 3) := by decide +kernel
theorem d_SE_chooseSlice_88 : decode c_SE_chooseSlice 88 = .ok (.iload 6, 2) := by decide +kernel
theorem d_SE_chooseSlice_90 : decode c_SE_chooseSlice 90 = .ok (.invokevirtual 51, 3) := by decide +kernel
theorem d_SE_chooseSlice_93 : decode c_SE_chooseSlice 93 = .ok (.checkcast 40, 3) := by decide +kernel
theorem d_SE_chooseSlice_96 : decode c_SE_chooseSlice 96 = .ok (.invokevirtual 61, 3) := by decide +kernel
theorem d_SE_chooseSlice_99 : decode c_SE_chooseSlice 99 = .ok (.pop, 1) := by decide +kernel
theorem d_SE_chooseSlice_100 : decode c_SE_chooseSlice 100 = .ok (.iload 6, 2) := by decide +kernel
theorem d_SE_chooseSlice_102 : decode c_SE_chooseSlice 102 = .ok (.iload_n 3, 1) := by decide +kernel
theorem d_SE_chooseSlice_103 : decode c_SE_chooseSlice 103 = .ok (.iadd, 1) := by decide +kernel
theorem d_SE_chooseSlice_104 : decode c_SE_chooseSlice 104 = .ok (.istore 6, 2) := by decide +kernel
theorem d_SE_chooseSlice_106 : decode c_SE_chooseSlice 106 = .ok (.goto (-30), 3) := by decide +kernel
theorem d_SE_chooseSlice_109 : decode c_SE_chooseSlice 109 = .ok (.goto 73, 3) := by decide +kernel
theorem d_SE_chooseSlice_112 : decode c_SE_chooseSlice 112 = .ok (.aload_n 0, 1) := by decide +kernel
theorem d_SE_chooseSlice_113 : decode c_SE_chooseSlice 113 = .ok (.getfield 20, 3) := by decide +kernel
theorem d_SE_chooseSlice_116 : decode c_SE_chooseSlice 116 = .ok (.iload 4, 2) := by decide +kernel
theorem d_SE_chooseSlice_118 : decode c_SE_chooseSlice 118 = .ok (.iconst (-1), 1) := by decide +kernel
theorem d_SE_chooseSlice_119 : decode c_SE_chooseSlice 119 = .ok (.iload 4, 2) := by decide +kernel
theorem d_SE_chooseSlice_121 : decode c_SE_chooseSlice 121 = .ok (.iconst 1, 1) := by decide +kernel
theorem d_SE_chooseSlice_122 : decode c_SE_chooseSlice 122 = .ok (.isub, 1) := by decide +kernel
theorem d_SE_chooseSlice_123 : decode c_SE_chooseSlice 123 = .ok (.iconst (-1), 1) := by decide +kernel
theorem d_SE_chooseSlice_124 : decode c_SE_chooseSlice 124 = .ok (.invokestatic 78, 3) := by decide +kernel
theorem d_SE_chooseSlice_127 : decode c_SE_chooseSlice 127 = .ok (.istore 5, 2) := by decide +kernel
theorem d_SE_chooseSlice_129 : decode c_SE_chooseSlice 129 = .ok (.aload_n 0, 1) := by decide +kernel
theorem d_SE_chooseSlice_130 : decode c_SE_chooseSlice 130 = .ok (.getfield 17, 3) := by decide +kernel
theorem d_SE_chooseSlice_133 : decode c_SE_chooseSlice 133 = .ok (.iload 4, 2) := by decide +kernel
theorem d_SE_chooseSlice_135 : decode c_SE_chooseSlice 135 = .ok (.iconst (-1), 1) := by decide +kernel
theorem d_SE_chooseSlice_136 : decode c_SE_chooseSlice 136 = .ok (.iload 4, 2) := by decide +kernel
theorem d_SE_chooseSlice_138 : decode c_SE_chooseSlice 138 = .ok (.iconst 1, 1) := by decide +kernel
theorem d_SE_chooseSlice_139 : decode c_SE_chooseSlice 139 = .ok (.isub, 1) := by decide +kernel
theorem d_SE_chooseSlice_140 : decode c_SE_chooseSlice 140 = .ok (.iload 4, 2) := by decide +kernel
theorem d_SE_chooseSlice_142 : decode c_SE_chooseSlice 142 = .ok (.iconst 1, 1) := by decide +kernel
theorem d_SE_chooseSlice_143 : decode c_SE_chooseSlice 143 = .ok (.isub, 1) := by decide +kernel
theorem d_SE_chooseSlice_144 : decode c_SE_chooseSlice 144 = .ok (.invokestatic 78, 3) := by decide +kernel
theorem d_SE_chooseSlice_147 : decode c_SE_chooseSlice 147 = .ok (.istore 6, 2) := by decide +kernel
theorem d_SE_chooseSlice_149 : decode c_SE_chooseSlice 149 = .ok (.iload 6, 2) := by decide +kernel
theorem d_SE_chooseSlice_151 : decode c_SE_chooseSlice 151 = .ok (.iload 5, 2) := by decide +kernel
theorem d_SE_chooseSlice_153 : decode c_SE_chooseSlice 153 = .ok (.if_icmp .le 29, 3) := by decide +kernel
theorem d_SE_chooseSlice_156 : decode c_SE_chooseSlice 156 = .ok (.aload_n 2, 1) := by decide +kernel
theorem d_SE_chooseSlice_157 : decode c_SE_chooseSlice 157 = .ok (.aload_n 1, 1) := by decide +kernel
theorem d_SE_chooseSlice_158 : decode c_SE_chooseSlice 158 = .ok (.getfield 39, 3) := by decide +kernel
theorem d_SE_chooseSlice_161 : decode c_SE_chooseSlice 161 = .ok (.iload 6, 2) := by decide +kernel
theorem d_SE_chooseSlice_163 : decode c_SE_chooseSlice 163 = .ok (.invokevirtual 51, 3) := by decide +kernel
theorem d_SE_chooseSlice_166 : decode c_SE_chooseSlice 166 = .ok (.checkcast 40, 3) := by decide +kernel
theorem d_SE_chooseSlice_169 : decode c_SE_chooseSlice 169 = .ok (.invokevirtual 61, 3) := by decide +kernel
theorem d_SE_chooseSlice_172 : decode c_SE_chooseSlice 172 = .ok (.pop, 1) := by decide +kernel
theorem d_SE_chooseSlice_173 : decode c_SE_chooseSlice 173 = .ok (.iload 6, 2) := by decide +kernel
theorem d_SE_chooseSlice_175 : decode c_SE_chooseSlice 175 = .ok (.iload_n 3, 1) := by decide +kernel
theorem d_SE_chooseSlice_176 : decode c_SE_chooseSlice 176 = .ok (.iadd, 1) := by decide +kernel
theorem d_SE_chooseSlice_177 : decode c_SE_chooseSlice 177 = .ok (.istore 6, 2) := by decide +kernel
theorem d_SE_chooseSlice_179 : decode c_SE_chooseSlice 179 = .ok (.goto (-30), 3) := by decide +kernel
theorem d_SE_chooseSlice_182 : decode c_SE_chooseSlice 182 = .ok (.return_, 1) := by decide +kernel
def ws_SE_chooseSlice : List Cond := .code y_SE_chooseSlice c_SE_chooseSlice 7 none :: TBL
theorem d_SE_bound_0 : decode c_SE_bound 0 = .ok (.iload_n 0, 1) := by decide +kernel
theorem d_SE_bound_1 : decode c_SE_bound 1 = .ok (.sipush 1000, 3) := by decide +kernel
theorem d_SE_bound_4 : decode c_SE_bound 4 = .ok (.if_icmp .ne 6, 3) := by decide +kernel
theorem d_SE_bound_7 : decode c_SE_bound 7 = .ok (.iload 4, 2) := by decide +kernel
theorem d_SE_bound_9 : decode c_SE_bound 9 = .ok (.ireturn, 1) := by decide +kernel
theorem d_SE_bound_10 : decode c_SE_bound 10 = .ok (.iload_n 0, 1) := by decide +kernel
theorem d_SE_bound_11 : decode c_SE_bound 11 = .ok (.ifCond .ge 9, 3) := by decide +kernel
theorem d_SE_bound_14 : decode c_SE_bound 14 = .ok (.iload_n 0, 1) := by decide +kernel
theorem d_SE_bound_15 : decode c_SE_bound 15 = .ok (.iload_n 1, 1) := by decide +kernel
theorem d_SE_bound_16 : decode c_SE_bound 16 = .ok (.iadd, 1) := by decide +kernel
theorem d_SE_bound_17 : decode c_SE_bound 17 = .ok (.goto 4, 3) := by decide +kernel
theorem d_SE_bound_20 : decode c_SE_bound 20 = .ok (.iload_n 0, 1) := by decide +kernel
theorem d_SE_bound_21 : decode c_SE_bound 21 = .ok (.istore 5, 2) := by decide +kernel
theorem d_SE_bound_23 : decode c_SE_bound 23 = .ok (.iload_n 2, 1) := by decide +kernel
theorem d_SE_bound_24 : decode c_SE_bound 24 = .ok (.iload_n 3, 1) := by decide +kernel
theorem d_SE_bound_25 : decode c_SE_bound 25 = .ok (.iload 5, 2) := by decide +kernel
theorem d_SE_bound_27 : decode c_SE_bound 27 = .ok (.invokestatic 82, 3) := by decide +kernel
theorem d_SE_bound_30 : decode c_SE_bound 30 = .ok (.invokestatic 88, 3) := by decide +kernel
theorem d_SE_bound_33 : decode c_SE_bound 33 = .ok (.ireturn, 1) := by decide +kernel
def ws_SE_bound : List Cond := .code y_SE_bound c_SE_bound 6 (some .int) :: TBL
theorem d_TE_holds_0 : decode c_TE_holds 0 = .ok (.aload_n 1, 1) := by decide +kernel
theorem d_TE_holds_1 : decode c_TE_holds 1 = .ok (.astore_n 2, 1) := by decide +kernel
theorem d_TE_holds_2 : decode c_TE_holds 2 = .ok (.iconst 0, 1) := by decide +kernel
theorem d_TE_holds_3 : decode c_TE_holds 3 = .ok (.istore_n 3, 1) := by decide +kernel
theorem d_TE_holds_4 : decode c_TE_holds 4 = .ok (.iload_n 3, 1) := by decide +kernel
theorem d_TE_holds_5 : decode c_TE_holds 5 = .ok (.aload_n 0, 1) := by decide +kernel
theorem d_TE_holds_6 : decode c_TE_holds 6 = .ok (.getfield 7, 3) := by decide +kernel
theorem d_TE_holds_9 : decode c_TE_holds 9 = .ok (.invokevirtual 21, 3) := by decide +kernel
theorem d_TE_holds_12 : decode c_TE_holds 12 = .ok (.if_icmp .ge 29, 3) := by decide +kernel
theorem d_TE_holds_15 : decode c_TE_holds 15 = .ok (.aload_n 2, 1) := by decide +kernel
theorem d_TE_holds_16 : decode c_TE_holds 16 = .ok (.ifnull 25, 3) := by decide +kernel
theorem d_TE_holds_19 : decode c_TE_holds 19 = .ok (.aload_n 0, 1) := by decide +kernel
theorem d_TE_holds_20 : decode c_TE_holds 20 = .ok (.getfield 7, 3) := by decide +kernel
theorem d_TE_holds_23 : decode c_TE_holds 23 = .ok (.iload_n 3, 1) := by decide +kernel
theorem d_TE_holds_24 : decode c_TE_holds 24 = .ok (.invokevirtual 27, 3) := by decide +kernel
theorem d_TE_holds_27 : decode c_TE_holds 27 = .ok (.checkcast 31, 3) := by decide +kernel
theorem d_TE_holds_30 : decode c_TE_holds 30 = .ok (.aload_n 2, 1) := by decide +kernel
theorem d_TE_holds_31 : decode c_TE_holds 31 = .ok (.invokevirtual 33, 3) := by decide +kernel
theorem d_TE_holds_34 : decode c_TE_holds 34 = .ok (.astore_n 2, 1) := by decide +kernel
theorem d_TE_holds_35 : decode c_TE_holds 35 = .ok (.iinc 3 1, 3) := by decide +kernel
theorem d_TE_holds_38 : decode c_TE_holds 38 = .ok (.goto (-34), 3) := by decide +kernel
theorem d_TE_holds_41 : decode c_TE_holds 41 = .ok (.aload_n 2, 1) := by decide +kernel
theorem d_TE_holds_42 : decode c_TE_holds 42 = .ok (.ifnonnull 17, 3) := by decide +kernel
theorem d_TE_holds_45 : decode c_TE_holds 45 = .ok (.aload_n 0, 1) := by decide +kernel
theorem d_TE_holds_46 : decode c_TE_holds 46 = .ok (.getfield 13, 3) := by decide +kernel
theorem d_TE_holds_49 : decode c_TE_holds 49 = .ok (.iconst 2, 1) := by decide +kernel
theorem d_TE_holds_50 : decode c_TE_holds 50 = .ok (.if_icmp .ne 7, 3) := by decide +kernel
theorem d_TE_holds_53 : decode c_TE_holds 53 = .ok (.iconst 1, 1) := by decide +kernel
theorem d_TE_holds_54 : decode c_TE_holds 54 = .ok (.goto 4, 3) := by decide +kernel
theorem d_TE_holds_57 : decode c_TE_holds 57 = .ok (.iconst 0, 1) := by decide +kernel
theorem d_TE_holds_58 : decode c_TE_holds 58 = .ok (.ireturn, 1) := by decide +kernel
theorem d_TE_holds_59 : decode c_TE_holds 59 = .ok (.aload_n 0, 1) := by decide +kernel
theorem d_TE_holds_60 : decode c_TE_holds 60 = .ok (.getfield 17, 3) := by decide +kernel
theorem d_TE_holds_63 : decode c_TE_holds 63 = .ok (.ifnonnull 5, 3) := by decide +kernel
theorem d_TE_holds_66 : decode c_TE_holds 66 = .ok (.iconst 1, 1) := by decide +kernel
theorem d_TE_holds_67 : decode c_TE_holds 67 = .ok (.ireturn, 1) := by decide +kernel
theorem d_TE_holds_68 : decode c_TE_holds 68 = .ok (.aload_n 2, 1) := by decide +kernel
theorem d_TE_holds_69 : decode c_TE_holds 69 = .ok (.aload_n 0, 1) := by decide +kernel
theorem d_TE_holds_70 : decode c_TE_holds 70 = .ok (.getfield 17, 3) := by decide +kernel
theorem d_TE_holds_73 : decode c_TE_holds 73 = .ok (.invokestatic 37, 3) := by decide +kernel
theorem d_TE_holds_76 : decode c_TE_holds 76 = .ok (.istore_n 3, 1) := by decide +kernel
theorem d_TE_holds_77 : decode c_TE_holds 77 = .ok (.aload_n 0, 1) := by decide +kernel
theorem d_TE_holds_78 : decode c_TE_holds 78 = .ok (.getfield 13, 3) := by decide +kernel
theorem d_TE_holds_81 : decode c_TE_holds 81 = .ok (.tableswitch 86 1 5 #[35, 37, 47, 56, 77], 35) := by decide +kernel
theorem d_TE_holds_116 : decode c_TE_holds 116 = .ok (.iload_n 3, 1) := by decide +kernel
theorem d_TE_holds_117 : decode c_TE_holds 117 = .ok (.ireturn, 1) := by decide +kernel
theorem d_TE_holds_118 : decode c_TE_holds 118 = .ok (.iload_n 3, 1) := by decide +kernel
theorem d_TE_holds_119 : decode c_TE_holds 119 = .ok (.ifCond .ne 7, 3) := by decide +kernel
theorem d_TE_holds_122 : decode c_TE_holds 122 = .ok (.iconst 1, 1) := by decide +kernel
theorem d_TE_holds_123 : decode c_TE_holds 123 = .ok (.goto 4, 3) := by decide +kernel
theorem d_TE_holds_126 : decode c_TE_holds 126 = .ok (.iconst 0, 1) := by decide +kernel
theorem d_TE_holds_127 : decode c_TE_holds 127 = .ok (.ireturn, 1) := by decide +kernel
theorem d_TE_holds_128 : decode c_TE_holds 128 = .ok (.aload_n 2, 1) := by decide +kernel
theorem d_TE_holds_129 : decode c_TE_holds 129 = .ok (.aload_n 0, 1) := by decide +kernel
theorem d_TE_holds_130 : decode c_TE_holds 130 = .ok (.getfield 17, 3) := by decide +kernel
theorem d_TE_holds_133 : decode c_TE_holds 133 = .ok (.invokestatic 43, 3) := by decide +kernel
theorem d_TE_holds_136 : decode c_TE_holds 136 = .ok (.ireturn, 1) := by decide +kernel
theorem d_TE_holds_137 : decode c_TE_holds 137 = .ok (.iload_n 3, 1) := by decide +kernel
theorem d_TE_holds_138 : decode c_TE_holds 138 = .ok (.ifCond .ne 14, 3) := by decide +kernel
theorem d_TE_holds_141 : decode c_TE_holds 141 = .ok (.aload_n 2, 1) := by decide +kernel
theorem d_TE_holds_142 : decode c_TE_holds 142 = .ok (.aload_n 0, 1) := by decide +kernel
theorem d_TE_holds_143 : decode c_TE_holds 143 = .ok (.getfield 17, 3) := by decide +kernel
theorem d_TE_holds_146 : decode c_TE_holds 146 = .ok (.invokestatic 43, 3) := by decide +kernel
theorem d_TE_holds_149 : decode c_TE_holds 149 = .ok (.ifCond .eq 7, 3) := by decide +kernel
theorem d_TE_holds_152 : decode c_TE_holds 152 = .ok (.iconst 1, 1) := by decide +kernel
theorem d_TE_holds_153 : decode c_TE_holds 153 = .ok (.goto 4, 3) := by decide +kernel
theorem d_TE_holds_156 : decode c_TE_holds 156 = .ok (.iconst 0, 1) := by decide +kernel
theorem d_TE_holds_157 : decode c_TE_holds 157 = .ok (.ireturn, 1) := by decide +kernel
theorem d_TE_holds_158 : decode c_TE_holds 158 = .ok (.aload_n 0, 1) := by decide +kernel
theorem d_TE_holds_159 : decode c_TE_holds 159 = .ok (.getfield 17, 3) := by decide +kernel
theorem d_TE_holds_162 : decode c_TE_holds 162 = .ok (.aload_n 2, 1) := by decide +kernel
theorem d_TE_holds_163 : decode c_TE_holds 163 = .ok (.invokestatic 43, 3) := by decide +kernel
theorem d_TE_holds_166 : decode c_TE_holds 166 = .ok (.ireturn, 1) := by decide +kernel
theorem d_TE_holds_167 : decode c_TE_holds 167 = .ok (.iload_n 3, 1) := by decide +kernel
theorem d_TE_holds_168 : decode c_TE_holds 168 = .ok (.ifCond .ne 14, 3) := by decide +kernel
theorem d_TE_holds_171 : decode c_TE_holds 171 = .ok (.aload_n 0, 1) := by decide +kernel
theorem d_TE_holds_172 : decode c_TE_holds 172 = .ok (.getfield 17, 3) := by decide +kernel
theorem d_TE_holds_175 : decode c_TE_holds 175 = .ok (.aload_n 2, 1) := by decide +kernel
theorem d_TE_holds_176 : decode c_TE_holds 176 = .ok (.invokestatic 43, 3) := by decide +kernel
theorem d_TE_holds_179 : decode c_TE_holds 179 = .ok (.ifCond .eq 7, 3) := by decide +kernel
theorem d_TE_holds_182 : decode c_TE_holds 182 = .ok (.iconst 1, 1) := by decide +kernel
theorem d_TE_holds_183 : decode c_TE_holds 183 = .ok (.goto 4, 3) := by decide +kernel
theorem d_TE_holds_186 : decode c_TE_holds 186 = .ok (.iconst 0, 1) := by decide +kernel
theorem d_TE_holds_187 : decode c_TE_holds 187 = .ok (.ireturn, 1) := by decide +kernel
def ws_TE_holds : List Cond := .code y_TE_holds c_TE_holds 4 (some .boolean) :: TBL
theorem d_SE_oneIn_0 : decode c_SE_oneIn 0 = .ok (.aload_n 0, 1) := by decide +kernel
theorem d_SE_oneIn_1 : decode c_SE_oneIn 1 = .ok (.getfield 17, 3) := by decide +kernel
theorem d_SE_oneIn_4 : decode c_SE_oneIn 4 = .ok (.ifCond .ge 18, 3) := by decide +kernel
theorem d_SE_oneIn_7 : decode c_SE_oneIn 7 = .ok (.aload_n 0, 1) := by decide +kernel
theorem d_SE_oneIn_8 : decode c_SE_oneIn 8 = .ok (.getfield 17, 3) := by decide +kernel
theorem d_SE_oneIn_11 : decode c_SE_oneIn 11 = .ok (.aload_n 1, 1) := by decide +kernel
theorem d_SE_oneIn_12 : decode c_SE_oneIn 12 = .ok (.getfield 39, 3) := by decide +kernel
theorem d_SE_oneIn_15 : decode c_SE_oneIn 15 = .ok (.invokevirtual 45, 3) := by decide +kernel
theorem d_SE_oneIn_18 : decode c_SE_oneIn 18 = .ok (.iadd, 1) := by decide +kernel
theorem d_SE_oneIn_19 : decode c_SE_oneIn 19 = .ok (.goto 7, 3) := by decide +kernel
theorem d_SE_oneIn_22 : decode c_SE_oneIn 22 = .ok (.aload_n 0, 1) := by decide +kernel
theorem d_SE_oneIn_23 : decode c_SE_oneIn 23 = .ok (.getfield 17, 3) := by decide +kernel
theorem d_SE_oneIn_26 : decode c_SE_oneIn 26 = .ok (.istore_n 2, 1) := by decide +kernel
theorem d_SE_oneIn_27 : decode c_SE_oneIn 27 = .ok (.aload_n 0, 1) := by decide +kernel
theorem d_SE_oneIn_28 : decode c_SE_oneIn 28 = .ok (.getfield 7, 3) := by decide +kernel
theorem d_SE_oneIn_31 : decode c_SE_oneIn 31 = .ok (.iconst 1, 1) := by decide +kernel
theorem d_SE_oneIn_32 : decode c_SE_oneIn 32 = .ok (.if_icmp .ne 14, 3) := by decide +kernel
theorem d_SE_oneIn_35 : decode c_SE_oneIn 35 = .ok (.aload_n 1, 1) := by decide +kernel
theorem d_SE_oneIn_36 : decode c_SE_oneIn 36 = .ok (.aload_n 0, 1) := by decide +kernel
theorem d_SE_oneIn_37 : decode c_SE_oneIn 37 = .ok (.getfield 13, 3) := by decide +kernel
theorem d_SE_oneIn_40 : decode c_SE_oneIn 40 = .ok (.invokevirtual 69, 3) := by decide +kernel
theorem d_SE_oneIn_43 : decode c_SE_oneIn 43 = .ok (.goto 8, 3) := by decide +kernel
theorem d_SE_oneIn_46 : decode c_SE_oneIn 46 = .ok (.aload_n 1, 1) := by decide +kernel
theorem d_SE_oneIn_47 : decode c_SE_oneIn 47 = .ok (.iload_n 2, 1) := by decide +kernel
theorem d_SE_oneIn_48 : decode c_SE_oneIn 48 = .ok (.invokevirtual 73, 3) := by decide +kernel
theorem d_SE_oneIn_51 : decode c_SE_oneIn 51 = .ok (.istore_n 3, 1) := by decide +kernel
theorem d_SE_oneIn_52 : decode c_SE_oneIn 52 = .ok (.iload_n 3, 1) := by decide +kernel
theorem d_SE_oneIn_53 : decode c_SE_oneIn 53 = .ok (.ifCond .ge 7, 3) := by decide +kernel
theorem d_SE_oneIn_56 : decode c_SE_oneIn 56 = .ok (.aconst_null, 1) := by decide +kernel
theorem d_SE_oneIn_57 : decode c_SE_oneIn 57 = .ok (.goto 14, 3) := by decide +kernel
theorem d_SE_oneIn_60 : decode c_SE_oneIn 60 = .ok (.aload_n 1, 1) := by decide +kernel
theorem d_SE_oneIn_61 : decode c_SE_oneIn 61 = .ok (.getfield 39, 3) := by decide +kernel
theorem d_SE_oneIn_64 : decode c_SE_oneIn 64 = .ok (.iload_n 3, 1) := by decide +kernel
theorem d_SE_oneIn_65 : decode c_SE_oneIn 65 = .ok (.invokevirtual 51, 3) := by decide +kernel
theorem d_SE_oneIn_68 : decode c_SE_oneIn 68 = .ok (.checkcast 40, 3) := by decide +kernel
theorem d_SE_oneIn_71 : decode c_SE_oneIn 71 = .ok (.areturn, 1) := by decide +kernel
def ws_SE_oneIn : List Cond := .code y_SE_oneIn c_SE_oneIn 4 (some (.object "PatchStore$Value")) :: TBL
theorem d_VA_less_0 : decode c_VA_less 0 = .ok (.aload_n 0, 1) := by decide +kernel
theorem d_VA_less_1 : decode c_VA_less 1 = .ok (.getfield 9, 3) := by decide +kernel
theorem d_VA_less_4 : decode c_VA_less 4 = .ok (.iconst 1, 1) := by decide +kernel
theorem d_VA_less_5 : decode c_VA_less 5 = .ok (.if_icmp .ne 29, 3) := by decide +kernel
theorem d_VA_less_8 : decode c_VA_less 8 = .ok (.aload_n 1, 1) := by decide +kernel
theorem d_VA_less_9 : decode c_VA_less 9 = .ok (.getfield 9, 3) := by decide +kernel
theorem d_VA_less_12 : decode c_VA_less 12 = .ok (.iconst 1, 1) := by decide +kernel
theorem d_VA_less_13 : decode c_VA_less 13 = .ok (.if_icmp .ne 21, 3) := by decide +kernel
theorem d_VA_less_16 : decode c_VA_less 16 = .ok (.aload_n 0, 1) := by decide +kernel
theorem d_VA_less_17 : decode c_VA_less 17 = .ok (.getfield 19, 3) := by decide +kernel
theorem d_VA_less_20 : decode c_VA_less 20 = .ok (.aload_n 1, 1) := by decide +kernel
theorem d_VA_less_21 : decode c_VA_less 21 = .ok (.getfield 19, 3) := by decide +kernel
theorem d_VA_less_24 : decode c_VA_less 24 = .ok (.lcmp, 1) := by decide +kernel
theorem d_VA_less_25 : decode c_VA_less 25 = .ok (.ifCond .ge 7, 3) := by decide +kernel
theorem d_VA_less_28 : decode c_VA_less 28 = .ok (.iconst 1, 1) := by decide +kernel
theorem d_VA_less_29 : decode c_VA_less 29 = .ok (.goto 4, 3) := by decide +kernel
theorem d_VA_less_32 : decode c_VA_less 32 = .ok (.iconst 0, 1) := by decide +kernel
theorem d_VA_less_33 : decode c_VA_less 33 = .ok (.ireturn, 1) := by decide +kernel
theorem d_VA_less_34 : decode c_VA_less 34 = .ok (.aload_n 0, 1) := by decide +kernel
theorem d_VA_less_35 : decode c_VA_less 35 = .ok (.getfield 9, 3) := by decide +kernel
theorem d_VA_less_38 : decode c_VA_less 38 = .ok (.iconst 2, 1) := by decide +kernel
theorem d_VA_less_39 : decode c_VA_less 39 = .ok (.if_icmp .ne 29, 3) := by decide +kernel
theorem d_VA_less_42 : decode c_VA_less 42 = .ok (.aload_n 1, 1) := by decide +kernel
theorem d_VA_less_43 : decode c_VA_less 43 = .ok (.getfield 9, 3) := by decide +kernel
theorem d_VA_less_46 : decode c_VA_less 46 = .ok (.iconst 2, 1) := by decide +kernel
theorem d_VA_less_47 : decode c_VA_less 47 = .ok (.if_icmp .ne 21, 3) := by decide +kernel
theorem d_VA_less_50 : decode c_VA_less 50 = .ok (.aload_n 0, 1) := by decide +kernel
theorem d_VA_less_51 : decode c_VA_less 51 = .ok (.getfield 15, 3) := by decide +kernel
theorem d_VA_less_54 : decode c_VA_less 54 = .ok (.aload_n 1, 1) := by decide +kernel
theorem d_VA_less_55 : decode c_VA_less 55 = .ok (.getfield 15, 3) := by decide +kernel
theorem d_VA_less_58 : decode c_VA_less 58 = .ok (.invokestatic 78, 3) := by decide +kernel
theorem d_VA_less_61 : decode c_VA_less 61 = .ok (.ifCond .eq 7, 3) := by decide +kernel
theorem d_VA_less_64 : decode c_VA_less 64 = .ok (.iconst 1, 1) := by decide +kernel
theorem d_VA_less_65 : decode c_VA_less 65 = .ok (.goto 4, 3) := by decide +kernel
theorem d_VA_less_68 : decode c_VA_less 68 = .ok (.iconst 0, 1) := by decide +kernel
theorem d_VA_less_69 : decode c_VA_less 69 = .ok (.ireturn, 1) := by decide +kernel
def ws_VA_less : List Cond := .code y_VA_less c_VA_less 2 (some .boolean) :: TBL
theorem d_VA_textLess_0 : decode c_VA_textLess 0 = .ok (.aload_n 0, 1) := by decide +kernel
theorem d_VA_textLess_1 : decode c_VA_textLess 1 = .ok (.invokevirtual 82, 3) := by decide +kernel
theorem d_VA_textLess_4 : decode c_VA_textLess 4 = .ok (.aload_n 1, 1) := by decide +kernel
theorem d_VA_textLess_5 : decode c_VA_textLess 5 = .ok (.invokevirtual 82, 3) := by decide +kernel
theorem d_VA_textLess_8 : decode c_VA_textLess 8 = .ok (.invokestatic 85, 3) := by decide +kernel
theorem d_VA_textLess_11 : decode c_VA_textLess 11 = .ok (.istore_n 2, 1) := by decide +kernel
theorem d_VA_textLess_12 : decode c_VA_textLess 12 = .ok (.iconst 0, 1) := by decide +kernel
theorem d_VA_textLess_13 : decode c_VA_textLess 13 = .ok (.istore_n 3, 1) := by decide +kernel
theorem d_VA_textLess_14 : decode c_VA_textLess 14 = .ok (.iload_n 3, 1) := by decide +kernel
theorem d_VA_textLess_15 : decode c_VA_textLess 15 = .ok (.iload_n 2, 1) := by decide +kernel
theorem d_VA_textLess_16 : decode c_VA_textLess 16 = .ok (.if_icmp .ge 41, 3) := by decide +kernel
theorem d_VA_textLess_19 : decode c_VA_textLess 19 = .ok (.aload_n 0, 1) := by decide +kernel
theorem d_VA_textLess_20 : decode c_VA_textLess 20 = .ok (.iload_n 3, 1) := by decide +kernel
theorem d_VA_textLess_21 : decode c_VA_textLess 21 = .ok (.invokevirtual 88, 3) := by decide +kernel
theorem d_VA_textLess_24 : decode c_VA_textLess 24 = .ok (.aload_n 1, 1) := by decide +kernel
theorem d_VA_textLess_25 : decode c_VA_textLess 25 = .ok (.iload_n 3, 1) := by decide +kernel
theorem d_VA_textLess_26 : decode c_VA_textLess 26 = .ok (.invokevirtual 88, 3) := by decide +kernel
theorem d_VA_textLess_29 : decode c_VA_textLess 29 = .ok (.if_icmp .eq 22, 3) := by decide +kernel
theorem d_VA_textLess_32 : decode c_VA_textLess 32 = .ok (.aload_n 0, 1) := by decide +kernel
theorem d_VA_textLess_33 : decode c_VA_textLess 33 = .ok (.iload_n 3, 1) := by decide +kernel
theorem d_VA_textLess_34 : decode c_VA_textLess 34 = .ok (.invokevirtual 88, 3) := by decide +kernel
theorem d_VA_textLess_37 : decode c_VA_textLess 37 = .ok (.aload_n 1, 1) := by decide +kernel
theorem d_VA_textLess_38 : decode c_VA_textLess 38 = .ok (.iload_n 3, 1) := by decide +kernel
theorem d_VA_textLess_39 : decode c_VA_textLess 39 = .ok (.invokevirtual 88, 3) := by decide +kernel
theorem d_VA_textLess_42 : decode c_VA_textLess 42 = .ok (.if_icmp .ge 7, 3) := by decide +kernel
theorem d_VA_textLess_45 : decode c_VA_textLess 45 = .ok (.iconst 1, 1) := by decide +kernel
theorem d_VA_textLess_46 : decode c_VA_textLess 46 = .ok (.goto 4, 3) := by decide +kernel
theorem d_VA_textLess_49 : decode c_VA_textLess 49 = .ok (.iconst 0, 1) := by decide +kernel
theorem d_VA_textLess_50 : decode c_VA_textLess 50 = .ok (.ireturn, 1) := by decide +kernel
theorem d_VA_textLess_51 : decode c_VA_textLess 51 = .ok (.iinc 3 1, 3) := by decide +kernel
theorem d_VA_textLess_54 : decode c_VA_textLess 54 = .ok (.goto (-40), 3) := by decide +kernel
theorem d_VA_textLess_57 : decode c_VA_textLess 57 = .ok (.aload_n 0, 1) := by decide +kernel
theorem d_VA_textLess_58 : decode c_VA_textLess 58 = .ok (.invokevirtual 82, 3) := by decide +kernel
theorem d_VA_textLess_61 : decode c_VA_textLess 61 = .ok (.aload_n 1, 1) := by decide +kernel
theorem d_VA_textLess_62 : decode c_VA_textLess 62 = .ok (.invokevirtual 82, 3) := by decide +kernel
theorem d_VA_textLess_65 : decode c_VA_textLess 65 = .ok (.if_icmp .ge 7, 3) := by decide +kernel
theorem d_VA_textLess_68 : decode c_VA_textLess 68 = .ok (.iconst 1, 1) := by decide +kernel
theorem d_VA_textLess_69 : decode c_VA_textLess 69 = .ok (.goto 4, 3) := by decide +kernel
theorem d_VA_textLess_72 : decode c_VA_textLess 72 = .ok (.iconst 0, 1) := by decide +kernel
theorem d_VA_textLess_73 : decode c_VA_textLess 73 = .ok (.ireturn, 1) := by decide +kernel
def ws_VA_textLess : List Cond := .code y_VA_textLess c_VA_textLess 4 (some .boolean) :: TBL
theorem d_PS_length_0 : decode c_PS_length 0 = .ok (.aload_n 0, 1) := by decide +kernel
theorem d_PS_length_1 : decode c_PS_length 1 = .ok (.iload_n 1, 1) := by decide +kernel
theorem d_PS_length_2 : decode c_PS_length 2 = .ok (.invokevirtual 65, 3) := by decide +kernel
theorem d_PS_length_5 : decode c_PS_length 5 = .ok (.astore_n 2, 1) := by decide +kernel
theorem d_PS_length_6 : decode c_PS_length 6 = .ok (.aload_n 2, 1) := by decide +kernel
theorem d_PS_length_7 : decode c_PS_length 7 = .ok (.ifnonnull 5, 3) := by decide +kernel
theorem d_PS_length_10 : decode c_PS_length 10 = .ok (.iconst (-1), 1) := by decide +kernel
theorem d_PS_length_11 : decode c_PS_length 11 = .ok (.ireturn, 1) := by decide +kernel
theorem d_PS_length_12 : decode c_PS_length 12 = .ok (.new 114, 3) := by decide +kernel
theorem d_PS_length_15 : decode c_PS_length 15 = .ok (.dup, 1) := by decide +kernel
theorem d_PS_length_16 : decode c_PS_length 16 = .ok (.iconst (-1), 1) := by decide +kernel
theorem d_PS_length_17 : decode c_PS_length 17 = .ok (.invokespecial 116, 3) := by decide +kernel
theorem d_PS_length_20 : decode c_PS_length 20 = .ok (.astore_n 3, 1) := by decide +kernel
theorem d_PS_length_21 : decode c_PS_length 21 = .ok (.aload_n 3, 1) := by decide +kernel
theorem d_PS_length_22 : decode c_PS_length 22 = .ok (.aload_n 2, 1) := by decide +kernel
theorem d_PS_length_23 : decode c_PS_length 23 = .ok (.invokevirtual 119, 3) := by decide +kernel
theorem d_PS_length_26 : decode c_PS_length 26 = .ok (.aload_n 3, 1) := by decide +kernel
theorem d_PS_length_27 : decode c_PS_length 27 = .ok (.getfield 123, 3) := by decide +kernel
theorem d_PS_length_30 : decode c_PS_length 30 = .ok (.ireturn, 1) := by decide +kernel
def ws_PS_length : List Cond := .code y_PS_length c_PS_length 4 (some .int) :: TBL
theorem d_SC_init_0 : decode c_SC_init 0 = .ok (.aload_n 0, 1) := by decide +kernel
theorem d_SC_init_1 : decode c_SC_init 1 = .ok (.invokespecial 3, 3) := by decide +kernel
theorem d_SC_init_4 : decode c_SC_init 4 = .ok (.aload_n 0, 1) := by decide +kernel
theorem d_SC_init_5 : decode c_SC_init 5 = .ok (.iconst 0, 1) := by decide +kernel
theorem d_SC_init_6 : decode c_SC_init 6 = .ok (.putfield 9, 3) := by decide +kernel
theorem d_SC_init_9 : decode c_SC_init 9 = .ok (.aload_n 0, 1) := by decide +kernel
theorem d_SC_init_10 : decode c_SC_init 10 = .ok (.iconst (-1), 1) := by decide +kernel
theorem d_SC_init_11 : decode c_SC_init 11 = .ok (.putfield 15, 3) := by decide +kernel
theorem d_SC_init_14 : decode c_SC_init 14 = .ok (.aload_n 0, 1) := by decide +kernel
theorem d_SC_init_15 : decode c_SC_init 15 = .ok (.iload_n 1, 1) := by decide +kernel
theorem d_SC_init_16 : decode c_SC_init 16 = .ok (.putfield 18, 3) := by decide +kernel
theorem d_SC_init_19 : decode c_SC_init 19 = .ok (.return_, 1) := by decide +kernel
def ws_SC_init : List Cond := .code y_SC_init c_SC_init 2 none :: TBL
theorem d_SC_spell_0 : decode c_SC_spell 0 = .ok (.aload_n 1, 1) := by decide +kernel
theorem d_SC_spell_1 : decode c_SC_spell 1 = .ok (.getfield 21, 3) := by decide +kernel
theorem d_SC_spell_4 : decode c_SC_spell 4 = .ok (.iconst 2, 1) := by decide +kernel
theorem d_SC_spell_5 : decode c_SC_spell 5 = .ok (.if_icmp .ne 14, 3) := by decide +kernel
theorem d_SC_spell_8 : decode c_SC_spell 8 = .ok (.aload_n 0, 1) := by decide +kernel
theorem d_SC_spell_9 : decode c_SC_spell 9 = .ok (.aload_n 1, 1) := by decide +kernel
theorem d_SC_spell_10 : decode c_SC_spell 10 = .ok (.getfield 26, 3) := by decide +kernel
theorem d_SC_spell_13 : decode c_SC_spell 13 = .ok (.invokevirtual 30, 3) := by decide +kernel
theorem d_SC_spell_16 : decode c_SC_spell 16 = .ok (.goto 74, 3) := by decide +kernel
theorem d_SC_spell_19 : decode c_SC_spell 19 = .ok (.aload_n 1, 1) := by decide +kernel
theorem d_SC_spell_20 : decode c_SC_spell 20 = .ok (.getfield 21, 3) := by decide +kernel
theorem d_SC_spell_23 : decode c_SC_spell 23 = .ok (.iconst 3, 1) := by decide +kernel
theorem d_SC_spell_24 : decode c_SC_spell 24 = .ok (.if_icmp .ne 15, 3) := by decide +kernel
theorem d_SC_spell_27 : decode c_SC_spell 27 = .ok (.aload_n 0, 1) := by decide +kernel
theorem d_SC_spell_28 : decode c_SC_spell 28 = .ok (.aload_n 1, 1) := by decide +kernel
theorem d_SC_spell_29 : decode c_SC_spell 29 = .ok (.bipush 91, 2) := by decide +kernel
theorem d_SC_spell_31 : decode c_SC_spell 31 = .ok (.bipush 93, 2) := by decide +kernel
theorem d_SC_spell_33 : decode c_SC_spell 33 = .ok (.invokevirtual 34, 3) := by decide +kernel
theorem d_SC_spell_36 : decode c_SC_spell 36 = .ok (.goto 54, 3) := by decide +kernel
theorem d_SC_spell_39 : decode c_SC_spell 39 = .ok (.aload_n 1, 1) := by decide +kernel
theorem d_SC_spell_40 : decode c_SC_spell 40 = .ok (.getfield 21, 3) := by decide +kernel
theorem d_SC_spell_43 : decode c_SC_spell 43 = .ok (.iconst 4, 1) := by decide +kernel
theorem d_SC_spell_44 : decode c_SC_spell 44 = .ok (.if_icmp .ne 15, 3) := by decide +kernel
theorem d_SC_spell_47 : decode c_SC_spell 47 = .ok (.aload_n 0, 1) := by decide +kernel
theorem d_SC_spell_48 : decode c_SC_spell 48 = .ok (.aload_n 1, 1) := by decide +kernel
theorem d_SC_spell_49 : decode c_SC_spell 49 = .ok (.bipush 123, 2) := by decide +kernel
theorem d_SC_spell_51 : decode c_SC_spell 51 = .ok (.bipush 125, 2) := by decide +kernel
theorem d_SC_spell_53 : decode c_SC_spell 53 = .ok (.invokevirtual 34, 3) := by decide +kernel
theorem d_SC_spell_56 : decode c_SC_spell 56 = .ok (.goto 34, 3) := by decide +kernel
theorem d_SC_spell_59 : decode c_SC_spell 59 = .ok (.iconst 0, 1) := by decide +kernel
theorem d_SC_spell_60 : decode c_SC_spell 60 = .ok (.istore_n 2, 1) := by decide +kernel
theorem d_SC_spell_61 : decode c_SC_spell 61 = .ok (.iload_n 2, 1) := by decide +kernel
theorem d_SC_spell_62 : decode c_SC_spell 62 = .ok (.aload_n 1, 1) := by decide +kernel
theorem d_SC_spell_63 : decode c_SC_spell 63 = .ok (.getfield 26, 3) := by decide +kernel
theorem d_SC_spell_66 : decode c_SC_spell 66 = .ok (.invokevirtual 38, 3) := by decide +kernel
theorem d_SC_spell_69 : decode c_SC_spell 69 = .ok (.if_icmp .ge 21, 3) := by decide +kernel
theorem d_SC_spell_72 : decode c_SC_spell 72 = .ok (.aload_n 0, 1) := by decide +kernel
theorem d_SC_spell_73 : decode c_SC_spell 73 = .ok (.aload_n 1, 1) := by decide +kernel
theorem d_SC_spell_74 : decode c_SC_spell 74 = .ok (.getfield 26, 3) := by decide +kernel
theorem d_SC_spell_77 : decode c_SC_spell 77 = .ok (.iload_n 2, 1) := by decide +kernel
theorem d_SC_spell_78 : decode c_SC_spell 78 = .ok (.invokevirtual 44, 3) := by decide +kernel
theorem d_SC_spell_81 : decode c_SC_spell 81 = .ok (.invokevirtual 48, 3) := by decide +kernel
theorem d_SC_spell_84 : decode c_SC_spell 84 = .ok (.iinc 2 1, 3) := by decide +kernel
theorem d_SC_spell_87 : decode c_SC_spell 87 = .ok (.goto (-26), 3) := by decide +kernel
theorem d_SC_spell_90 : decode c_SC_spell 90 = .ok (.return_, 1) := by decide +kernel
def ws_SC_spell : List Cond := .code y_SC_spell c_SC_spell 3 none :: TBL
theorem d_SC_spellString_0 : decode c_SC_spellString 0 = .ok (.aload_n 0, 1) := by decide +kernel
theorem d_SC_spellString_1 : decode c_SC_spellString 1 = .ok (.bipush 34, 2) := by decide +kernel
theorem d_SC_spellString_3 : decode c_SC_spellString 3 = .ok (.invokevirtual 48, 3) := by decide +kernel
theorem d_SC_spellString_6 : decode c_SC_spellString 6 = .ok (.iconst 0, 1) := by decide +kernel
theorem d_SC_spellString_7 : decode c_SC_spellString 7 = .ok (.istore_n 2, 1) := by decide +kernel
theorem d_SC_spellString_8 : decode c_SC_spellString 8 = .ok (.iload_n 2, 1) := by decide +kernel
theorem d_SC_spellString_9 : decode c_SC_spellString 9 = .ok (.aload_n 1, 1) := by decide +kernel
theorem d_SC_spellString_10 : decode c_SC_spellString 10 = .ok (.invokevirtual 38, 3) := by decide +kernel
theorem d_SC_spellString_13 : decode c_SC_spellString 13 = .ok (.if_icmp .ge 38, 3) := by decide +kernel
theorem d_SC_spellString_16 : decode c_SC_spellString 16 = .ok (.aload_n 1, 1) := by decide +kernel
theorem d_SC_spellString_17 : decode c_SC_spellString 17 = .ok (.iload_n 2, 1) := by decide +kernel
theorem d_SC_spellString_18 : decode c_SC_spellString 18 = .ok (.invokevirtual 44, 3) := by decide +kernel
theorem d_SC_spellString_21 : decode c_SC_spellString 21 = .ok (.istore_n 3, 1) := by decide +kernel
theorem d_SC_spellString_22 : decode c_SC_spellString 22 = .ok (.iload_n 3, 1) := by decide +kernel
theorem d_SC_spellString_23 : decode c_SC_spellString 23 = .ok (.bipush 34, 2) := by decide +kernel
theorem d_SC_spellString_25 : decode c_SC_spellString 25 = .ok (.if_icmp .eq 9, 3) := by decide +kernel
theorem d_SC_spellString_28 : decode c_SC_spellString 28 = .ok (.iload_n 3, 1) := by decide +kernel
theorem d_SC_spellString_29 : decode c_SC_spellString 29 = .ok (.bipush 92, 2) := by decide +kernel
theorem d_SC_spellString_31 : decode c_SC_spellString 31 = .ok (.if_icmp .ne 9, 3) := by decide +kernel
theorem d_SC_spellString_34 : decode c_SC_spellString 34 = .ok (.aload_n 0, 1) := by decide +kernel
theorem d_SC_spellString_35 : decode c_SC_spellString 35 = .ok (.bipush 92, 2) := by decide +kernel
theorem d_SC_spellString_37 : decode c_SC_spellString 37 = .ok (.invokevirtual 48, 3) := by decide +kernel
theorem d_SC_spellString_40 : decode c_SC_spellString 40 = .ok (.aload_n 0, 1) := by decide +kernel
theorem d_SC_spellString_41 : decode c_SC_spellString 41 = .ok (.iload_n 3, 1) := by decide +kernel
theorem d_SC_spellString_42 : decode c_SC_spellString 42 = .ok (.invokevirtual 48, 3) := by decide +kernel
theorem d_SC_spellString_45 : decode c_SC_spellString 45 = .ok (.iinc 2 1, 3) := by decide +kernel
theorem d_SC_spellString_48 : decode c_SC_spellString 48 = .ok (.goto (-40), 3) := by decide +kernel
theorem d_SC_spellString_51 : decode c_SC_spellString 51 = .ok (.aload_n 0, 1) := by decide +kernel
theorem d_SC_spellString_52 : decode c_SC_spellString 52 = .ok (.bipush 34, 2) := by decide +kernel
theorem d_SC_spellString_54 : decode c_SC_spellString 54 = .ok (.invokevirtual 48, 3) := by decide +kernel
theorem d_SC_spellString_57 : decode c_SC_spellString 57 = .ok (.return_, 1) := by decide +kernel
def ws_SC_spellString : List Cond := .code y_SC_spellString c_SC_spellString 4 none :: TBL
theorem d_SC_next_0 : decode c_SC_next 0 = .ok (.aload_n 0, 1) := by decide +kernel
theorem d_SC_next_1 : decode c_SC_next 1 = .ok (.getfield 9, 3) := by decide +kernel
theorem d_SC_next_4 : decode c_SC_next 4 = .ok (.aload_n 0, 1) := by decide +kernel
theorem d_SC_next_5 : decode c_SC_next 5 = .ok (.getfield 18, 3) := by decide +kernel
theorem d_SC_next_8 : decode c_SC_next 8 = .ok (.if_icmp .ne 8, 3) := by decide +kernel
theorem d_SC_next_11 : decode c_SC_next 11 = .ok (.aload_n 0, 1) := by decide +kernel
theorem d_SC_next_12 : decode c_SC_next 12 = .ok (.iload_n 1, 1) := by decide +kernel
theorem d_SC_next_13 : decode c_SC_next 13 = .ok (.putfield 15, 3) := by decide +kernel
theorem d_SC_next_16 : decode c_SC_next 16 = .ok (.aload_n 0, 1) := by decide +kernel
theorem d_SC_next_17 : decode c_SC_next 17 = .ok (.dup, 1) := by decide +kernel
theorem d_SC_next_18 : decode c_SC_next 18 = .ok (.getfield 9, 3) := by decide +kernel
theorem d_SC_next_21 : decode c_SC_next 21 = .ok (.iconst 1, 1) := by decide +kernel
theorem d_SC_next_22 : decode c_SC_next 22 = .ok (.iadd, 1) := by decide +kernel
theorem d_SC_next_23 : decode c_SC_next 23 = .ok (.putfield 9, 3) := by decide +kernel
theorem d_SC_next_26 : decode c_SC_next 26 = .ok (.return_, 1) := by decide +kernel
def ws_SC_next : List Cond := .code y_SC_next c_SC_next 2 none :: TBL
theorem d_SC_spellParts_0 : decode c_SC_spellParts 0 = .ok (.aload_n 0, 1) := by decide +kernel
theorem d_SC_spellParts_1 : decode c_SC_spellParts 1 = .ok (.iload_n 2, 1) := by decide +kernel
theorem d_SC_spellParts_2 : decode c_SC_spellParts 2 = .ok (.invokevirtual 48, 3) := by decide +kernel
theorem d_SC_spellParts_5 : decode c_SC_spellParts 5 = .ok (.iconst 0, 1) := by decide +kernel
theorem d_SC_spellParts_6 : decode c_SC_spellParts 6 = .ok (.istore 4, 2) := by decide +kernel
theorem d_SC_spellParts_8 : decode c_SC_spellParts 8 = .ok (.iload 4, 2) := by decide +kernel
theorem d_SC_spellParts_10 : decode c_SC_spellParts 10 = .ok (.aload_n 1, 1) := by decide +kernel
theorem d_SC_spellParts_11 : decode c_SC_spellParts 11 = .ok (.getfield 52, 3) := by decide +kernel
theorem d_SC_spellParts_14 : decode c_SC_spellParts 14 = .ok (.invokevirtual 56, 3) := by decide +kernel
theorem d_SC_spellParts_17 : decode c_SC_spellParts 17 = .ok (.if_icmp .ge 63, 3) := by decide +kernel
theorem d_SC_spellParts_20 : decode c_SC_spellParts 20 = .ok (.aload_n 1, 1) := by decide +kernel
theorem d_SC_spellParts_21 : decode c_SC_spellParts 21 = .ok (.getfield 52, 3) := by decide +kernel
theorem d_SC_spellParts_24 : decode c_SC_spellParts 24 = .ok (.iload 4, 2) := by decide +kernel
theorem d_SC_spellParts_26 : decode c_SC_spellParts 26 = .ok (.invokevirtual 61, 3) := by decide +kernel
theorem d_SC_spellParts_29 : decode c_SC_spellParts 29 = .ok (.checkcast 22, 3) := by decide +kernel
theorem d_SC_spellParts_32 : decode c_SC_spellParts 32 = .ok (.astore 5, 2) := by decide +kernel
theorem d_SC_spellParts_34 : decode c_SC_spellParts 34 = .ok (.iload 4, 2) := by decide +kernel
theorem d_SC_spellParts_36 : decode c_SC_spellParts 36 = .ok (.ifCond .le 9, 3) := by decide +kernel
theorem d_SC_spellParts_39 : decode c_SC_spellParts 39 = .ok (.aload_n 0, 1) := by decide +kernel
theorem d_SC_spellParts_40 : decode c_SC_spellParts 40 = .ok (.bipush 44, 2) := by decide +kernel
theorem d_SC_spellParts_42 : decode c_SC_spellParts 42 = .ok (.invokevirtual 48, 3) := by decide +kernel
theorem d_SC_spellParts_45 : decode c_SC_spellParts 45 = .ok (.aload_n 1, 1) := by decide +kernel
theorem d_SC_spellParts_46 : decode c_SC_spellParts 46 = .ok (.getfield 21, 3) := by decide +kernel
theorem d_SC_spellParts_49 : decode c_SC_spellParts 49 = .ok (.iconst 4, 1) := by decide +kernel
theorem d_SC_spellParts_50 : decode c_SC_spellParts 50 = .ok (.if_icmp .ne 18, 3) := by decide +kernel
theorem d_SC_spellParts_53 : decode c_SC_spellParts 53 = .ok (.aload_n 0, 1) := by decide +kernel
theorem d_SC_spellParts_54 : decode c_SC_spellParts 54 = .ok (.aload 5, 2) := by decide +kernel
theorem d_SC_spellParts_56 : decode c_SC_spellParts 56 = .ok (.getfield 65, 3) := by decide +kernel
theorem d_SC_spellParts_59 : decode c_SC_spellParts 59 = .ok (.invokevirtual 30, 3) := by decide +kernel
theorem d_SC_spellParts_62 : decode c_SC_spellParts 62 = .ok (.aload_n 0, 1) := by decide +kernel
theorem d_SC_spellParts_63 : decode c_SC_spellParts 63 = .ok (.bipush 58, 2) := by decide +kernel
theorem d_SC_spellParts_65 : decode c_SC_spellParts 65 = .ok (.invokevirtual 48, 3) := by decide +kernel
theorem d_SC_spellParts_68 : decode c_SC_spellParts 68 = .ok (.aload_n 0, 1) := by decide +kernel
theorem d_SC_spellParts_69 : decode c_SC_spellParts 69 = .ok (.aload 5, 2) := by decide +kernel
theorem d_SC_spellParts_71 : decode c_SC_spellParts 71 = .ok (.invokevirtual 68, 3) := by decide +kernel
theorem d_SC_spellParts_74 : decode c_SC_spellParts 74 = .ok (.iinc 4 1, 3) := by decide +kernel
theorem d_SC_spellParts_77 : decode c_SC_spellParts 77 = .ok (.goto (-69), 3) := by decide +kernel
theorem d_SC_spellParts_80 : decode c_SC_spellParts 80 = .ok (.aload_n 0, 1) := by decide +kernel
theorem d_SC_spellParts_81 : decode c_SC_spellParts 81 = .ok (.iload_n 3, 1) := by decide +kernel
theorem d_SC_spellParts_82 : decode c_SC_spellParts 82 = .ok (.invokevirtual 48, 3) := by decide +kernel
theorem d_SC_spellParts_85 : decode c_SC_spellParts 85 = .ok (.return_, 1) := by decide +kernel
def ws_SC_spellParts : List Cond := .code y_SC_spellParts c_SC_spellParts 6 none :: TBL
