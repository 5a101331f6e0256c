theorem d_MO_equal_0 : decode c_MO_equal 0 = .ok (.aload_n 0, 1) := by decide +kernel
theorem d_MO_equal_1 : decode c_MO_equal 1 = .ok (.bipush 7, 2) := by decide +kernel
theorem d_MO_equal_3 : decode c_MO_equal 3 = .ok (.iload_n 1, 1) := by decide +kernel
theorem d_MO_equal_4 : decode c_MO_equal 4 = .ok (.invokevirtual 81, 3) := by decide +kernel
theorem d_MO_equal_7 : decode c_MO_equal 7 = .ok (.istore_n 3, 1) := by decide +kernel
theorem d_MO_equal_8 : decode c_MO_equal 8 = .ok (.aload_n 0, 1) := by decide +kernel
theorem d_MO_equal_9 : decode c_MO_equal 9 = .ok (.getfield 57, 3) := by decide +kernel
theorem d_MO_equal_12 : decode c_MO_equal 12 = .ok (.iconst 0, 1) := by decide +kernel
theorem d_MO_equal_13 : decode c_MO_equal 13 = .ok (.iload_n 2, 1) := by decide +kernel
theorem d_MO_equal_14 : decode c_MO_equal 14 = .ok (.iastore, 1) := by decide +kernel
theorem d_MO_equal_15 : decode c_MO_equal 15 = .ok (.iload_n 1, 1) := by decide +kernel
theorem d_MO_equal_16 : decode c_MO_equal 16 = .ok (.istore 4, 2) := by decide +kernel
theorem d_MO_equal_18 : decode c_MO_equal 18 = .ok (.iload 4, 2) := by decide +kernel
theorem d_MO_equal_20 : decode c_MO_equal 20 = .ok (.iload_n 3, 1) := by decide +kernel
theorem d_MO_equal_21 : decode c_MO_equal 21 = .ok (.if_icmp .ge 118, 3) := by decide +kernel
theorem d_MO_equal_24 : decode c_MO_equal 24 = .ok (.aload_n 0, 1) := by decide +kernel
theorem d_MO_equal_25 : decode c_MO_equal 25 = .ok (.getfield 57, 3) := by decide +kernel
theorem d_MO_equal_28 : decode c_MO_equal 28 = .ok (.iload 4, 2) := by decide +kernel
theorem d_MO_equal_30 : decode c_MO_equal 30 = .ok (.iload_n 1, 1) := by decide +kernel
theorem d_MO_equal_31 : decode c_MO_equal 31 = .ok (.isub, 1) := by decide +kernel
theorem d_MO_equal_32 : decode c_MO_equal 32 = .ok (.iaload, 1) := by decide +kernel
theorem d_MO_equal_33 : decode c_MO_equal 33 = .ok (.istore 5, 2) := by decide +kernel
theorem d_MO_equal_35 : decode c_MO_equal 35 = .ok (.iload 5, 2) := by decide +kernel
theorem d_MO_equal_37 : decode c_MO_equal 37 = .ok (.ifCond .lt 33, 3) := by decide +kernel
theorem d_MO_equal_40 : decode c_MO_equal 40 = .ok (.aload_n 0, 1) := by decide +kernel
theorem d_MO_equal_41 : decode c_MO_equal 41 = .ok (.iload 4, 2) := by decide +kernel
theorem d_MO_equal_43 : decode c_MO_equal 43 = .ok (.iload 5, 2) := by decide +kernel
theorem d_MO_equal_45 : decode c_MO_equal 45 = .ok (.invokevirtual 253, 3) := by decide +kernel
theorem d_MO_equal_48 : decode c_MO_equal 48 = .ok (.ifCond .eq 22, 3) := by decide +kernel
theorem d_MO_equal_51 : decode c_MO_equal 51 = .ok (.aload_n 0, 1) := by decide +kernel
theorem d_MO_equal_52 : decode c_MO_equal 52 = .ok (.bipush 7, 2) := by decide +kernel
theorem d_MO_equal_54 : decode c_MO_equal 54 = .ok (.iload 4, 2) := by decide +kernel
theorem d_MO_equal_56 : decode c_MO_equal 56 = .ok (.invokevirtual 177, 3) := by decide +kernel
theorem d_MO_equal_59 : decode c_MO_equal 59 = .ok (.aload_n 0, 1) := by decide +kernel
theorem d_MO_equal_60 : decode c_MO_equal 60 = .ok (.bipush 8, 2) := by decide +kernel
theorem d_MO_equal_62 : decode c_MO_equal 62 = .ok (.iload 5, 2) := by decide +kernel
theorem d_MO_equal_64 : decode c_MO_equal 64 = .ok (.invokevirtual 177, 3) := by decide +kernel
theorem d_MO_equal_67 : decode c_MO_equal 67 = .ok (.if_icmp .eq 5, 3) := by decide +kernel
theorem d_MO_equal_70 : decode c_MO_equal 70 = .ok (.iconst 0, 1) := by decide +kernel
theorem d_MO_equal_71 : decode c_MO_equal 71 = .ok (.ireturn, 1) := by decide +kernel
theorem d_MO_equal_72 : decode c_MO_equal 72 = .ok (.iconst 0, 1) := by decide +kernel
theorem d_MO_equal_73 : decode c_MO_equal 73 = .ok (.istore 6, 2) := by decide +kernel
theorem d_MO_equal_75 : decode c_MO_equal 75 = .ok (.aload_n 0, 1) := by decide +kernel
theorem d_MO_equal_76 : decode c_MO_equal 76 = .ok (.bipush 7, 2) := by decide +kernel
theorem d_MO_equal_78 : decode c_MO_equal 78 = .ok (.iload 4, 2) := by decide +kernel
theorem d_MO_equal_80 : decode c_MO_equal 80 = .ok (.invokevirtual 81, 3) := by decide +kernel
theorem d_MO_equal_83 : decode c_MO_equal 83 = .ok (.istore 7, 2) := by decide +kernel
theorem d_MO_equal_85 : decode c_MO_equal 85 = .ok (.iload 4, 2) := by decide +kernel
theorem d_MO_equal_87 : decode c_MO_equal 87 = .ok (.iconst 1, 1) := by decide +kernel
theorem d_MO_equal_88 : decode c_MO_equal 88 = .ok (.iadd, 1) := by decide +kernel
theorem d_MO_equal_89 : decode c_MO_equal 89 = .ok (.istore 8, 2) := by decide +kernel
theorem d_MO_equal_91 : decode c_MO_equal 91 = .ok (.iload 8, 2) := by decide +kernel
theorem d_MO_equal_93 : decode c_MO_equal 93 = .ok (.iload 7, 2) := by decide +kernel
theorem d_MO_equal_95 : decode c_MO_equal 95 = .ok (.if_icmp .ge 38, 3) := by decide +kernel
theorem d_MO_equal_98 : decode c_MO_equal 98 = .ok (.aload_n 0, 1) := by decide +kernel
theorem d_MO_equal_99 : decode c_MO_equal 99 = .ok (.getfield 57, 3) := by decide +kernel
theorem d_MO_equal_102 : decode c_MO_equal 102 = .ok (.iload 8, 2) := by decide +kernel
theorem d_MO_equal_104 : decode c_MO_equal 104 = .ok (.iload_n 1, 1) := by decide +kernel
theorem d_MO_equal_105 : decode c_MO_equal 105 = .ok (.isub, 1) := by decide +kernel
theorem d_MO_equal_106 : decode c_MO_equal 106 = .ok (.aload_n 0, 1) := by decide +kernel
theorem d_MO_equal_107 : decode c_MO_equal 107 = .ok (.iload 5, 2) := by decide +kernel
theorem d_MO_equal_109 : decode c_MO_equal 109 = .ok (.iload 8, 2) := by decide +kernel
theorem d_MO_equal_111 : decode c_MO_equal 111 = .ok (.iload 6, 2) := by decide +kernel
theorem d_MO_equal_113 : decode c_MO_equal 113 = .ok (.invokevirtual 256, 3) := by decide +kernel
theorem d_MO_equal_116 : decode c_MO_equal 116 = .ok (.iastore, 1) := by decide +kernel
theorem d_MO_equal_117 : decode c_MO_equal 117 = .ok (.iinc 6 1, 3) := by decide +kernel
theorem d_MO_equal_120 : decode c_MO_equal 120 = .ok (.aload_n 0, 1) := by decide +kernel
theorem d_MO_equal_121 : decode c_MO_equal 121 = .ok (.bipush 7, 2) := by decide +kernel
theorem d_MO_equal_123 : decode c_MO_equal 123 = .ok (.iload 8, 2) := by decide +kernel
theorem d_MO_equal_125 : decode c_MO_equal 125 = .ok (.invokevirtual 81, 3) := by decide +kernel
theorem d_MO_equal_128 : decode c_MO_equal 128 = .ok (.istore 8, 2) := by decide +kernel
theorem d_MO_equal_130 : decode c_MO_equal 130 = .ok (.goto (-39), 3) := by decide +kernel
theorem d_MO_equal_133 : decode c_MO_equal 133 = .ok (.iinc 4 1, 3) := by decide +kernel
theorem d_MO_equal_136 : decode c_MO_equal 136 = .ok (.goto (-118), 3) := by decide +kernel
theorem d_MO_equal_139 : decode c_MO_equal 139 = .ok (.iconst 1, 1) := by decide +kernel
theorem d_MO_equal_140 : decode c_MO_equal 140 = .ok (.ireturn, 1) := by decide +kernel
def ws_MO_equal : List Cond := .code y_MO_equal c_MO_equal 9 (some .boolean) :: TBL
theorem d_MO_alike_0 : decode c_MO_alike 0 = .ok (.aload_n 0, 1) := by decide +kernel
theorem d_MO_alike_1 : decode c_MO_alike 1 = .ok (.getfield 13, 3) := by decide +kernel
theorem d_MO_alike_4 : decode c_MO_alike 4 = .ok (.iload_n 1, 1) := by decide +kernel
theorem d_MO_alike_5 : decode c_MO_alike 5 = .ok (.iaload, 1) := by decide +kernel
theorem d_MO_alike_6 : decode c_MO_alike 6 = .ok (.aload_n 0, 1) := by decide +kernel
theorem d_MO_alike_7 : decode c_MO_alike 7 = .ok (.getfield 13, 3) := by decide +kernel
theorem d_MO_alike_10 : decode c_MO_alike 10 = .ok (.iload_n 2, 1) := by decide +kernel
theorem d_MO_alike_11 : decode c_MO_alike 11 = .ok (.iaload, 1) := by decide +kernel
theorem d_MO_alike_12 : decode c_MO_alike 12 = .ok (.if_icmp .ne 34, 3) := by decide +kernel
theorem d_MO_alike_15 : decode c_MO_alike 15 = .ok (.aload_n 0, 1) := by decide +kernel
theorem d_MO_alike_16 : decode c_MO_alike 16 = .ok (.getfield 31, 3) := by decide +kernel
theorem d_MO_alike_19 : decode c_MO_alike 19 = .ok (.iload_n 1, 1) := by decide +kernel
theorem d_MO_alike_20 : decode c_MO_alike 20 = .ok (.laload, 1) := by decide +kernel
theorem d_MO_alike_21 : decode c_MO_alike 21 = .ok (.aload_n 0, 1) := by decide +kernel
theorem d_MO_alike_22 : decode c_MO_alike 22 = .ok (.getfield 31, 3) := by decide +kernel
theorem d_MO_alike_25 : decode c_MO_alike 25 = .ok (.iload_n 2, 1) := by decide +kernel
theorem d_MO_alike_26 : decode c_MO_alike 26 = .ok (.laload, 1) := by decide +kernel
theorem d_MO_alike_27 : decode c_MO_alike 27 = .ok (.lcmp, 1) := by decide +kernel
theorem d_MO_alike_28 : decode c_MO_alike 28 = .ok (.ifCond .ne 18, 3) := by decide +kernel
theorem d_MO_alike_31 : decode c_MO_alike 31 = .ok (.aload_n 0, 1) := by decide +kernel
theorem d_MO_alike_32 : decode c_MO_alike 32 = .ok (.getfield 22, 3) := by decide +kernel
theorem d_MO_alike_35 : decode c_MO_alike 35 = .ok (.iload_n 1, 1) := by decide +kernel
theorem d_MO_alike_36 : decode c_MO_alike 36 = .ok (.iaload, 1) := by decide +kernel
theorem d_MO_alike_37 : decode c_MO_alike 37 = .ok (.aload_n 0, 1) := by decide +kernel
theorem d_MO_alike_38 : decode c_MO_alike 38 = .ok (.getfield 22, 3) := by decide +kernel
theorem d_MO_alike_41 : decode c_MO_alike 41 = .ok (.iload_n 2, 1) := by decide +kernel
theorem d_MO_alike_42 : decode c_MO_alike 42 = .ok (.iaload, 1) := by decide +kernel
theorem d_MO_alike_43 : decode c_MO_alike 43 = .ok (.if_icmp .eq 5, 3) := by decide +kernel
theorem d_MO_alike_46 : decode c_MO_alike 46 = .ok (.iconst 0, 1) := by decide +kernel
theorem d_MO_alike_47 : decode c_MO_alike 47 = .ok (.ireturn, 1) := by decide +kernel
theorem d_MO_alike_48 : decode c_MO_alike 48 = .ok (.iconst 1, 1) := by decide +kernel
theorem d_MO_alike_49 : decode c_MO_alike 49 = .ok (.istore_n 3, 1) := by decide +kernel
theorem d_MO_alike_50 : decode c_MO_alike 50 = .ok (.iconst 0, 1) := by decide +kernel
theorem d_MO_alike_51 : decode c_MO_alike 51 = .ok (.istore 4, 2) := by decide +kernel
theorem d_MO_alike_53 : decode c_MO_alike 53 = .ok (.iload 4, 2) := by decide +kernel
theorem d_MO_alike_55 : decode c_MO_alike 55 = .ok (.aload_n 0, 1) := by decide +kernel
theorem d_MO_alike_56 : decode c_MO_alike 56 = .ok (.getfield 22, 3) := by decide +kernel
theorem d_MO_alike_59 : decode c_MO_alike 59 = .ok (.iload_n 1, 1) := by decide +kernel
theorem d_MO_alike_60 : decode c_MO_alike 60 = .ok (.iaload, 1) := by decide +kernel
theorem d_MO_alike_61 : decode c_MO_alike 61 = .ok (.if_icmp .ge 50, 3) := by decide +kernel
theorem d_MO_alike_64 : decode c_MO_alike 64 = .ok (.iload_n 3, 1) := by decide +kernel
theorem d_MO_alike_65 : decode c_MO_alike 65 = .ok (.ifCond .eq 46, 3) := by decide +kernel
theorem d_MO_alike_68 : decode c_MO_alike 68 = .ok (.aload_n 0, 1) := by decide +kernel
theorem d_MO_alike_69 : decode c_MO_alike 69 = .ok (.getfield 35, 3) := by decide +kernel
theorem d_MO_alike_72 : decode c_MO_alike 72 = .ok (.aload_n 0, 1) := by decide +kernel
theorem d_MO_alike_73 : decode c_MO_alike 73 = .ok (.getfield 19, 3) := by decide +kernel
theorem d_MO_alike_76 : decode c_MO_alike 76 = .ok (.iload_n 1, 1) := by decide +kernel
theorem d_MO_alike_77 : decode c_MO_alike 77 = .ok (.iaload, 1) := by decide +kernel
theorem d_MO_alike_78 : decode c_MO_alike 78 = .ok (.iload 4, 2) := by decide +kernel
theorem d_MO_alike_80 : decode c_MO_alike 80 = .ok (.iadd, 1) := by decide +kernel
theorem d_MO_alike_81 : decode c_MO_alike 81 = .ok (.caload, 1) := by decide +kernel
theorem d_MO_alike_82 : decode c_MO_alike 82 = .ok (.aload_n 0, 1) := by decide +kernel
theorem d_MO_alike_83 : decode c_MO_alike 83 = .ok (.getfield 35, 3) := by decide +kernel
theorem d_MO_alike_86 : decode c_MO_alike 86 = .ok (.aload_n 0, 1) := by decide +kernel
theorem d_MO_alike_87 : decode c_MO_alike 87 = .ok (.getfield 19, 3) := by decide +kernel
theorem d_MO_alike_90 : decode c_MO_alike 90 = .ok (.iload_n 2, 1) := by decide +kernel
theorem d_MO_alike_91 : decode c_MO_alike 91 = .ok (.iaload, 1) := by decide +kernel
theorem d_MO_alike_92 : decode c_MO_alike 92 = .ok (.iload 4, 2) := by decide +kernel
theorem d_MO_alike_94 : decode c_MO_alike 94 = .ok (.iadd, 1) := by decide +kernel
theorem d_MO_alike_95 : decode c_MO_alike 95 = .ok (.caload, 1) := by decide +kernel
theorem d_MO_alike_96 : decode c_MO_alike 96 = .ok (.if_icmp .ne 7, 3) := by decide +kernel
theorem d_MO_alike_99 : decode c_MO_alike 99 = .ok (.iconst 1, 1) := by decide +kernel
theorem d_MO_alike_100 : decode c_MO_alike 100 = .ok (.goto 4, 3) := by decide +kernel
theorem d_MO_alike_103 : decode c_MO_alike 103 = .ok (.iconst 0, 1) := by decide +kernel
theorem d_MO_alike_104 : decode c_MO_alike 104 = .ok (.istore_n 3, 1) := by decide +kernel
theorem d_MO_alike_105 : decode c_MO_alike 105 = .ok (.iinc 4 1, 3) := by decide +kernel
theorem d_MO_alike_108 : decode c_MO_alike 108 = .ok (.goto (-55), 3) := by decide +kernel
theorem d_MO_alike_111 : decode c_MO_alike 111 = .ok (.iload_n 3, 1) := by decide +kernel
theorem d_MO_alike_112 : decode c_MO_alike 112 = .ok (.ireturn, 1) := by decide +kernel
def ws_MO_alike : List Cond := .code y_MO_alike c_MO_alike 5 (some .boolean) :: TBL
theorem d_MO_counterpart_0 : decode c_MO_counterpart 0 = .ok (.aload_n 0, 1) := by decide +kernel
theorem d_MO_counterpart_1 : decode c_MO_counterpart 1 = .ok (.getfield 13, 3) := by decide +kernel
theorem d_MO_counterpart_4 : decode c_MO_counterpart 4 = .ok (.iload_n 1, 1) := by decide +kernel
theorem d_MO_counterpart_5 : decode c_MO_counterpart 5 = .ok (.iaload, 1) := by decide +kernel
theorem d_MO_counterpart_6 : decode c_MO_counterpart 6 = .ok (.iconst 5, 1) := by decide +kernel
theorem d_MO_counterpart_7 : decode c_MO_counterpart 7 = .ok (.if_icmp .ne 12, 3) := by decide +kernel
theorem d_MO_counterpart_10 : decode c_MO_counterpart 10 = .ok (.aload_n 0, 1) := by decide +kernel
theorem d_MO_counterpart_11 : decode c_MO_counterpart 11 = .ok (.bipush 8, 2) := by decide +kernel
theorem d_MO_counterpart_13 : decode c_MO_counterpart 13 = .ok (.iload_n 1, 1) := by decide +kernel
theorem d_MO_counterpart_14 : decode c_MO_counterpart 14 = .ok (.iload_n 3, 1) := by decide +kernel
theorem d_MO_counterpart_15 : decode c_MO_counterpart 15 = .ok (.invokevirtual 180, 3) := by decide +kernel
theorem d_MO_counterpart_18 : decode c_MO_counterpart 18 = .ok (.ireturn, 1) := by decide +kernel
theorem d_MO_counterpart_19 : decode c_MO_counterpart 19 = .ok (.aload_n 0, 1) := by decide +kernel
theorem d_MO_counterpart_20 : decode c_MO_counterpart 20 = .ok (.aload_n 0, 1) := by decide +kernel
theorem d_MO_counterpart_21 : decode c_MO_counterpart 21 = .ok (.getfield 28, 3) := by decide +kernel
theorem d_MO_counterpart_24 : decode c_MO_counterpart 24 = .ok (.iload_n 2, 1) := by decide +kernel
theorem d_MO_counterpart_25 : decode c_MO_counterpart 25 = .ok (.iaload, 1) := by decide +kernel
theorem d_MO_counterpart_26 : decode c_MO_counterpart 26 = .ok (.putfield 107, 3) := by decide +kernel
theorem d_MO_counterpart_29 : decode c_MO_counterpart 29 = .ok (.iconst 0, 1) := by decide +kernel
theorem d_MO_counterpart_30 : decode c_MO_counterpart 30 = .ok (.istore 4, 2) := by decide +kernel
theorem d_MO_counterpart_32 : decode c_MO_counterpart 32 = .ok (.iload 4, 2) := by decide +kernel
theorem d_MO_counterpart_34 : decode c_MO_counterpart 34 = .ok (.aload_n 0, 1) := by decide +kernel
theorem d_MO_counterpart_35 : decode c_MO_counterpart 35 = .ok (.getfield 107, 3) := by decide +kernel
theorem d_MO_counterpart_38 : decode c_MO_counterpart 38 = .ok (.if_icmp .ge 30, 3) := by decide +kernel
theorem d_MO_counterpart_41 : decode c_MO_counterpart 41 = .ok (.aload_n 0, 1) := by decide +kernel
theorem d_MO_counterpart_42 : decode c_MO_counterpart 42 = .ok (.getfield 45, 3) := by decide +kernel
theorem d_MO_counterpart_45 : decode c_MO_counterpart 45 = .ok (.iload 4, 2) := by decide +kernel
theorem d_MO_counterpart_47 : decode c_MO_counterpart 47 = .ok (.aload_n 0, 1) := by decide +kernel
theorem d_MO_counterpart_48 : decode c_MO_counterpart 48 = .ok (.getfield 35, 3) := by decide +kernel
theorem d_MO_counterpart_51 : decode c_MO_counterpart 51 = .ok (.aload_n 0, 1) := by decide +kernel
theorem d_MO_counterpart_52 : decode c_MO_counterpart 52 = .ok (.getfield 25, 3) := by decide +kernel
theorem d_MO_counterpart_55 : decode c_MO_counterpart 55 = .ok (.iload_n 2, 1) := by decide +kernel
theorem d_MO_counterpart_56 : decode c_MO_counterpart 56 = .ok (.iaload, 1) := by decide +kernel
theorem d_MO_counterpart_57 : decode c_MO_counterpart 57 = .ok (.iload 4, 2) := by decide +kernel
theorem d_MO_counterpart_59 : decode c_MO_counterpart 59 = .ok (.iadd, 1) := by decide +kernel
theorem d_MO_counterpart_60 : decode c_MO_counterpart 60 = .ok (.caload, 1) := by decide +kernel
theorem d_MO_counterpart_61 : decode c_MO_counterpart 61 = .ok (.castore, 1) := by decide +kernel
theorem d_MO_counterpart_62 : decode c_MO_counterpart 62 = .ok (.iinc 4 1, 3) := by decide +kernel
theorem d_MO_counterpart_65 : decode c_MO_counterpart 65 = .ok (.goto (-33), 3) := by decide +kernel
theorem d_MO_counterpart_68 : decode c_MO_counterpart 68 = .ok (.aload_n 0, 1) := by decide +kernel
theorem d_MO_counterpart_69 : decode c_MO_counterpart 69 = .ok (.bipush 8, 2) := by decide +kernel
theorem d_MO_counterpart_71 : decode c_MO_counterpart 71 = .ok (.iload_n 1, 1) := by decide +kernel
theorem d_MO_counterpart_72 : decode c_MO_counterpart 72 = .ok (.invokevirtual 170, 3) := by decide +kernel
theorem d_MO_counterpart_75 : decode c_MO_counterpart 75 = .ok (.ireturn, 1) := by decide +kernel
def ws_MO_counterpart : List Cond := .code y_MO_counterpart c_MO_counterpart 5 (some .int) :: TBL
theorem d_MO_deepest_0 : decode c_MO_deepest 0 = .ok (.iconst 0, 1) := by decide +kernel
theorem d_MO_deepest_1 : decode c_MO_deepest 1 = .ok (.istore_n 2, 1) := by decide +kernel
theorem d_MO_deepest_2 : decode c_MO_deepest 2 = .ok (.iload_n 1, 1) := by decide +kernel
theorem d_MO_deepest_3 : decode c_MO_deepest 3 = .ok (.invokestatic 73, 3) := by decide +kernel
theorem d_MO_deepest_6 : decode c_MO_deepest 6 = .ok (.istore_n 3, 1) := by decide +kernel
theorem d_MO_deepest_7 : decode c_MO_deepest 7 = .ok (.iload_n 3, 1) := by decide +kernel
theorem d_MO_deepest_8 : decode c_MO_deepest 8 = .ok (.iload_n 1, 1) := by decide +kernel
theorem d_MO_deepest_9 : decode c_MO_deepest 9 = .ok (.invokestatic 73, 3) := by decide +kernel
theorem d_MO_deepest_12 : decode c_MO_deepest 12 = .ok (.aload_n 0, 1) := by decide +kernel
theorem d_MO_deepest_13 : decode c_MO_deepest 13 = .ok (.getfield 7, 3) := by decide +kernel
theorem d_MO_deepest_16 : decode c_MO_deepest 16 = .ok (.iload_n 1, 1) := by decide +kernel
theorem d_MO_deepest_17 : decode c_MO_deepest 17 = .ok (.iaload, 1) := by decide +kernel
theorem d_MO_deepest_18 : decode c_MO_deepest 18 = .ok (.iadd, 1) := by decide +kernel
theorem d_MO_deepest_19 : decode c_MO_deepest 19 = .ok (.if_icmp .ge 46, 3) := by decide +kernel
theorem d_MO_deepest_22 : decode c_MO_deepest 22 = .ok (.aload_n 0, 1) := by decide +kernel
theorem d_MO_deepest_23 : decode c_MO_deepest 23 = .ok (.getfield 16, 3) := by decide +kernel
theorem d_MO_deepest_26 : decode c_MO_deepest 26 = .ok (.iload_n 3, 1) := by decide +kernel
theorem d_MO_deepest_27 : decode c_MO_deepest 27 = .ok (.iaload, 1) := by decide +kernel
theorem d_MO_deepest_28 : decode c_MO_deepest 28 = .ok (.aload_n 0, 1) := by decide +kernel
theorem d_MO_deepest_29 : decode c_MO_deepest 29 = .ok (.getfield 13, 3) := by decide +kernel
theorem d_MO_deepest_32 : decode c_MO_deepest 32 = .ok (.iload_n 3, 1) := by decide +kernel
theorem d_MO_deepest_33 : decode c_MO_deepest 33 = .ok (.iaload, 1) := by decide +kernel
theorem d_MO_deepest_34 : decode c_MO_deepest 34 = .ok (.iconst 5, 1) := by decide +kernel
theorem d_MO_deepest_35 : decode c_MO_deepest 35 = .ok (.if_icmp .lt 7, 3) := by decide +kernel
theorem d_MO_deepest_38 : decode c_MO_deepest 38 = .ok (.iconst 1, 1) := by decide +kernel
theorem d_MO_deepest_39 : decode c_MO_deepest 39 = .ok (.goto 4, 3) := by decide +kernel
theorem d_MO_deepest_42 : decode c_MO_deepest 42 = .ok (.iconst 0, 1) := by decide +kernel
theorem d_MO_deepest_43 : decode c_MO_deepest 43 = .ok (.iadd, 1) := by decide +kernel
theorem d_MO_deepest_44 : decode c_MO_deepest 44 = .ok (.istore 4, 2) := by decide +kernel
theorem d_MO_deepest_46 : decode c_MO_deepest 46 = .ok (.iload 4, 2) := by decide +kernel
theorem d_MO_deepest_48 : decode c_MO_deepest 48 = .ok (.iload_n 2, 1) := by decide +kernel
theorem d_MO_deepest_49 : decode c_MO_deepest 49 = .ok (.if_icmp .le 8, 3) := by decide +kernel
theorem d_MO_deepest_52 : decode c_MO_deepest 52 = .ok (.iload 4, 2) := by decide +kernel
theorem d_MO_deepest_54 : decode c_MO_deepest 54 = .ok (.goto 4, 3) := by decide +kernel
theorem d_MO_deepest_57 : decode c_MO_deepest 57 = .ok (.iload_n 2, 1) := by decide +kernel
theorem d_MO_deepest_58 : decode c_MO_deepest 58 = .ok (.istore_n 2, 1) := by decide +kernel
theorem d_MO_deepest_59 : decode c_MO_deepest 59 = .ok (.iinc 3 1, 3) := by decide +kernel
theorem d_MO_deepest_62 : decode c_MO_deepest 62 = .ok (.goto (-55), 3) := by decide +kernel
theorem d_MO_deepest_65 : decode c_MO_deepest 65 = .ok (.iload_n 2, 1) := by decide +kernel
theorem d_MO_deepest_66 : decode c_MO_deepest 66 = .ok (.ireturn, 1) := by decide +kernel
def ws_MO_deepest : List Cond := .code y_MO_deepest c_MO_deepest 5 (some .int) :: TBL
theorem d_MO_query_0 : decode c_MO_query 0 = .ok (.iconst (-1), 1) := by decide +kernel
theorem d_MO_query_1 : decode c_MO_query 1 = .ok (.istore_n 2, 1) := by decide +kernel
theorem d_MO_query_2 : decode c_MO_query 2 = .ok (.iload_n 1, 1) := by decide +kernel
theorem d_MO_query_3 : decode c_MO_query 3 = .ok (.invokestatic 184, 3) := by decide +kernel
theorem d_MO_query_6 : decode c_MO_query 6 = .ok (.ifCond .eq 18, 3) := by decide +kernel
theorem d_MO_query_9 : decode c_MO_query 9 = .ok (.aload_n 0, 1) := by decide +kernel
theorem d_MO_query_10 : decode c_MO_query 10 = .ok (.getfield 7, 3) := by decide +kernel
theorem d_MO_query_13 : decode c_MO_query 13 = .ok (.iload_n 1, 1) := by decide +kernel
theorem d_MO_query_14 : decode c_MO_query 14 = .ok (.iaload, 1) := by decide +kernel
theorem d_MO_query_15 : decode c_MO_query 15 = .ok (.ifCond .le 9, 3) := by decide +kernel
theorem d_MO_query_18 : decode c_MO_query 18 = .ok (.aload_n 0, 1) := by decide +kernel
theorem d_MO_query_19 : decode c_MO_query 19 = .ok (.iload_n 1, 1) := by decide +kernel
theorem d_MO_query_20 : decode c_MO_query 20 = .ok (.invokevirtual 259, 3) := by decide +kernel
theorem d_MO_query_23 : decode c_MO_query 23 = .ok (.istore_n 2, 1) := by decide +kernel
theorem d_MO_query_24 : decode c_MO_query 24 = .ok (.aload_n 0, 1) := by decide +kernel
theorem d_MO_query_25 : decode c_MO_query 25 = .ok (.iconst 0, 1) := by decide +kernel
theorem d_MO_query_26 : decode c_MO_query 26 = .ok (.putfield 93, 3) := by decide +kernel
theorem d_MO_query_29 : decode c_MO_query 29 = .ok (.iload_n 2, 1) := by decide +kernel
theorem d_MO_query_30 : decode c_MO_query 30 = .ok (.ireturn, 1) := by decide +kernel
def ws_MO_query : List Cond := .code y_MO_query c_MO_query 3 (some .int) :: TBL
theorem d_MO_ask_0 : decode c_MO_ask 0 = .ok (.aload_n 0, 1) := by decide +kernel
theorem d_MO_ask_1 : decode c_MO_ask 1 = .ok (.iload_n 1, 1) := by decide +kernel
theorem d_MO_ask_2 : decode c_MO_ask 2 = .ok (.putfield 262, 3) := by decide +kernel
theorem d_MO_ask_5 : decode c_MO_ask 5 = .ok (.aload_n 0, 1) := by decide +kernel
theorem d_MO_ask_6 : decode c_MO_ask 6 = .ok (.iconst 0, 1) := by decide +kernel
theorem d_MO_ask_7 : decode c_MO_ask 7 = .ok (.putfield 265, 3) := by decide +kernel
theorem d_MO_ask_10 : decode c_MO_ask 10 = .ok (.aload_n 0, 1) := by decide +kernel
theorem d_MO_ask_11 : decode c_MO_ask 11 = .ok (.iload_n 1, 1) := by decide +kernel
theorem d_MO_ask_12 : decode c_MO_ask 12 = .ok (.invokevirtual 269, 3) := by decide +kernel
theorem d_MO_ask_15 : decode c_MO_ask 15 = .ok (.aload_n 0, 1) := by decide +kernel
theorem d_MO_ask_16 : decode c_MO_ask 16 = .ok (.getfield 272, 3) := by decide +kernel
theorem d_MO_ask_19 : decode c_MO_ask 19 = .ok (.ifCond .eq 6, 3) := by decide +kernel
theorem d_MO_ask_22 : decode c_MO_ask 22 = .ok (.bipush (-2), 2) := by decide +kernel
theorem d_MO_ask_24 : decode c_MO_ask 24 = .ok (.ireturn, 1) := by decide +kernel
theorem d_MO_ask_25 : decode c_MO_ask 25 = .ok (.aload_n 0, 1) := by decide +kernel
theorem d_MO_ask_26 : decode c_MO_ask 26 = .ok (.iconst 1, 1) := by decide +kernel
theorem d_MO_ask_27 : decode c_MO_ask 27 = .ok (.putfield 265, 3) := by decide +kernel
theorem d_MO_ask_30 : decode c_MO_ask 30 = .ok (.aload_n 0, 1) := by decide +kernel
theorem d_MO_ask_31 : decode c_MO_ask 31 = .ok (.iload_n 1, 1) := by decide +kernel
theorem d_MO_ask_32 : decode c_MO_ask 32 = .ok (.invokevirtual 269, 3) := by decide +kernel
theorem d_MO_ask_35 : decode c_MO_ask 35 = .ok (.aload_n 0, 1) := by decide +kernel
theorem d_MO_ask_36 : decode c_MO_ask 36 = .ok (.getfield 275, 3) := by decide +kernel
theorem d_MO_ask_39 : decode c_MO_ask 39 = .ok (.ifCond .eq 6, 3) := by decide +kernel
theorem d_MO_ask_42 : decode c_MO_ask 42 = .ok (.bipush (-4), 2) := by decide +kernel
theorem d_MO_ask_44 : decode c_MO_ask 44 = .ok (.ireturn, 1) := by decide +kernel
theorem d_MO_ask_45 : decode c_MO_ask 45 = .ok (.aload_n 0, 1) := by decide +kernel
theorem d_MO_ask_46 : decode c_MO_ask 46 = .ok (.iload_n 1, 1) := by decide +kernel
theorem d_MO_ask_47 : decode c_MO_ask 47 = .ok (.bipush 6, 2) := by decide +kernel
theorem d_MO_ask_49 : decode c_MO_ask 49 = .ok (.invokevirtual 190, 3) := by decide +kernel
theorem d_MO_ask_52 : decode c_MO_ask 52 = .ok (.aload_n 0, 1) := by decide +kernel
theorem d_MO_ask_53 : decode c_MO_ask 53 = .ok (.aload_n 0, 1) := by decide +kernel
theorem d_MO_ask_54 : decode c_MO_ask 54 = .ok (.getfield 278, 3) := by decide +kernel
theorem d_MO_ask_57 : decode c_MO_ask 57 = .ok (.putfield 193, 3) := by decide +kernel
theorem d_MO_ask_60 : decode c_MO_ask 60 = .ok (.iconst 0, 1) := by decide +kernel
theorem d_MO_ask_61 : decode c_MO_ask 61 = .ok (.istore_n 2, 1) := by decide +kernel
theorem d_MO_ask_62 : decode c_MO_ask 62 = .ok (.iload_n 2, 1) := by decide +kernel
theorem d_MO_ask_63 : decode c_MO_ask 63 = .ok (.aload_n 0, 1) := by decide +kernel
theorem d_MO_ask_64 : decode c_MO_ask 64 = .ok (.getfield 278, 3) := by decide +kernel
theorem d_MO_ask_67 : decode c_MO_ask 67 = .ok (.if_icmp .ge 26, 3) := by decide +kernel
theorem d_MO_ask_70 : decode c_MO_ask 70 = .ok (.aload_n 0, 1) := by decide +kernel
theorem d_MO_ask_71 : decode c_MO_ask 71 = .ok (.getfield 54, 3) := by decide +kernel
theorem d_MO_ask_74 : decode c_MO_ask 74 = .ok (.iload_n 2, 1) := by decide +kernel
theorem d_MO_ask_75 : decode c_MO_ask 75 = .ok (.aload_n 0, 1) := by decide +kernel
theorem d_MO_ask_76 : decode c_MO_ask 76 = .ok (.getfield 48, 3) := by decide +kernel
theorem d_MO_ask_79 : decode c_MO_ask 79 = .ok (.iload_n 2, 1) := by decide +kernel
theorem d_MO_ask_80 : decode c_MO_ask 80 = .ok (.iaload, 1) := by decide +kernel
theorem d_MO_ask_81 : decode c_MO_ask 81 = .ok (.iload_n 1, 1) := by decide +kernel
theorem d_MO_ask_82 : decode c_MO_ask 82 = .ok (.invokestatic 73, 3) := by decide +kernel
theorem d_MO_ask_85 : decode c_MO_ask 85 = .ok (.isub, 1) := by decide +kernel
theorem d_MO_ask_86 : decode c_MO_ask 86 = .ok (.iastore, 1) := by decide +kernel
theorem d_MO_ask_87 : decode c_MO_ask 87 = .ok (.iinc 2 1, 3) := by decide +kernel
theorem d_MO_ask_90 : decode c_MO_ask 90 = .ok (.goto (-28), 3) := by decide +kernel
theorem d_MO_ask_93 : decode c_MO_ask 93 = .ok (.aload_n 0, 1) := by decide +kernel
theorem d_MO_ask_94 : decode c_MO_ask 94 = .ok (.getfield 278, 3) := by decide +kernel
theorem d_MO_ask_97 : decode c_MO_ask 97 = .ok (.ireturn, 1) := by decide +kernel
def ws_MO_ask : List Cond := .code y_MO_ask c_MO_ask 3 (some .int) :: TBL
theorem d_MO_path_0 : decode c_MO_path 0 = .ok (.aload_n 0, 1) := by decide +kernel
theorem d_MO_path_1 : decode c_MO_path 1 = .ok (.iconst 0, 1) := by decide +kernel
theorem d_MO_path_2 : decode c_MO_path 2 = .ok (.putfield 96, 3) := by decide +kernel
theorem d_MO_path_5 : decode c_MO_path 5 = .ok (.aload_n 0, 1) := by decide +kernel
theorem d_MO_path_6 : decode c_MO_path 6 = .ok (.aload_n 0, 1) := by decide +kernel
theorem d_MO_path_7 : decode c_MO_path 7 = .ok (.bipush 36, 2) := by decide +kernel
theorem d_MO_path_9 : decode c_MO_path 9 = .ok (.invokevirtual 103, 3) := by decide +kernel
theorem d_MO_path_12 : decode c_MO_path 12 = .ok (.ifCond .ne 7, 3) := by decide +kernel
theorem d_MO_path_15 : decode c_MO_path 15 = .ok (.iconst 1, 1) := by decide +kernel
theorem d_MO_path_16 : decode c_MO_path 16 = .ok (.goto 4, 3) := by decide +kernel
theorem d_MO_path_19 : decode c_MO_path 19 = .ok (.iconst 0, 1) := by decide +kernel
theorem d_MO_path_20 : decode c_MO_path 20 = .ok (.putfield 272, 3) := by decide +kernel
theorem d_MO_path_23 : decode c_MO_path 23 = .ok (.aload_n 0, 1) := by decide +kernel
theorem d_MO_path_24 : decode c_MO_path 24 = .ok (.iconst 0, 1) := by decide +kernel
theorem d_MO_path_25 : decode c_MO_path 25 = .ok (.putfield 275, 3) := by decide +kernel
theorem d_MO_path_28 : decode c_MO_path 28 = .ok (.aload_n 0, 1) := by decide +kernel
theorem d_MO_path_29 : decode c_MO_path 29 = .ok (.iconst 1, 1) := by decide +kernel
theorem d_MO_path_30 : decode c_MO_path 30 = .ok (.putfield 278, 3) := by decide +kernel
theorem d_MO_path_33 : decode c_MO_path 33 = .ok (.aload_n 0, 1) := by decide +kernel
theorem d_MO_path_34 : decode c_MO_path 34 = .ok (.getfield 48, 3) := by decide +kernel
theorem d_MO_path_37 : decode c_MO_path 37 = .ok (.iconst 0, 1) := by decide +kernel
theorem d_MO_path_38 : decode c_MO_path 38 = .ok (.iload_n 1, 1) := by decide +kernel
theorem d_MO_path_39 : decode c_MO_path 39 = .ok (.invokestatic 73, 3) := by decide +kernel
theorem d_MO_path_42 : decode c_MO_path 42 = .ok (.iastore, 1) := by decide +kernel
theorem d_MO_path_43 : decode c_MO_path 43 = .ok (.aload_n 0, 1) := by decide +kernel
theorem d_MO_path_44 : decode c_MO_path 44 = .ok (.getfield 272, 3) := by decide +kernel
theorem d_MO_path_47 : decode c_MO_path 47 = .ok (.ifCond .ne 28, 3) := by decide +kernel
theorem d_MO_path_50 : decode c_MO_path 50 = .ok (.aload_n 0, 1) := by decide +kernel
theorem d_MO_path_51 : decode c_MO_path 51 = .ok (.getfield 96, 3) := by decide +kernel
theorem d_MO_path_54 : decode c_MO_path 54 = .ok (.aload_n 0, 1) := by decide +kernel
theorem d_MO_path_55 : decode c_MO_path 55 = .ok (.getfield 93, 3) := by decide +kernel
theorem d_MO_path_58 : decode c_MO_path 58 = .ok (.if_icmp .ge 17, 3) := by decide +kernel
theorem d_MO_path_61 : decode c_MO_path 61 = .ok (.aload_n 0, 1) := by decide +kernel
theorem d_MO_path_62 : decode c_MO_path 62 = .ok (.getfield 275, 3) := by decide +kernel
theorem d_MO_path_65 : decode c_MO_path 65 = .ok (.ifCond .ne 10, 3) := by decide +kernel
theorem d_MO_path_68 : decode c_MO_path 68 = .ok (.aload_n 0, 1) := by decide +kernel
theorem d_MO_path_69 : decode c_MO_path 69 = .ok (.invokevirtual 281, 3) := by decide +kernel
theorem d_MO_path_72 : decode c_MO_path 72 = .ok (.goto (-29), 3) := by decide +kernel
theorem d_MO_path_75 : decode c_MO_path 75 = .ok (.return_, 1) := by decide +kernel
def ws_MO_path : List Cond := .code y_MO_path c_MO_path 2 none :: TBL
theorem d_MO_segment_0 : decode c_MO_segment 0 = .ok (.iconst 0, 1) := by decide +kernel
theorem d_MO_segment_1 : decode c_MO_segment 1 = .ok (.istore_n 1, 1) := by decide +kernel
theorem d_MO_segment_2 : decode c_MO_segment 2 = .ok (.aload_n 0, 1) := by decide +kernel
theorem d_MO_segment_3 : decode c_MO_segment 3 = .ok (.bipush 46, 2) := by decide +kernel
theorem d_MO_segment_5 : decode c_MO_segment 5 = .ok (.invokevirtual 103, 3) := by decide +kernel
theorem d_MO_segment_8 : decode c_MO_segment 8 = .ok (.ifCond .eq 13, 3) := by decide +kernel
theorem d_MO_segment_11 : decode c_MO_segment 11 = .ok (.aload_n 0, 1) := by decide +kernel
theorem d_MO_segment_12 : decode c_MO_segment 12 = .ok (.bipush 46, 2) := by decide +kernel
theorem d_MO_segment_14 : decode c_MO_segment 14 = .ok (.invokevirtual 103, 3) := by decide +kernel
theorem d_MO_segment_17 : decode c_MO_segment 17 = .ok (.istore_n 1, 1) := by decide +kernel
theorem d_MO_segment_18 : decode c_MO_segment 18 = .ok (.goto 21, 3) := by decide +kernel
theorem d_MO_segment_21 : decode c_MO_segment 21 = .ok (.aload_n 0, 1) := by decide +kernel
theorem d_MO_segment_22 : decode c_MO_segment 22 = .ok (.aload_n 0, 1) := by decide +kernel
theorem d_MO_segment_23 : decode c_MO_segment 23 = .ok (.invokevirtual 99, 3) := by decide +kernel
theorem d_MO_segment_26 : decode c_MO_segment 26 = .ok (.bipush 91, 2) := by decide +kernel
theorem d_MO_segment_28 : decode c_MO_segment 28 = .ok (.if_icmp .eq 7, 3) := by decide +kernel
theorem d_MO_segment_31 : decode c_MO_segment 31 = .ok (.iconst 1, 1) := by decide +kernel
theorem d_MO_segment_32 : decode c_MO_segment 32 = .ok (.goto 4, 3) := by decide +kernel
theorem d_MO_segment_35 : decode c_MO_segment 35 = .ok (.iconst 0, 1) := by decide +kernel
theorem d_MO_segment_36 : decode c_MO_segment 36 = .ok (.putfield 272, 3) := by decide +kernel
theorem d_MO_segment_39 : decode c_MO_segment 39 = .ok (.aload_n 0, 1) := by decide +kernel
theorem d_MO_segment_40 : decode c_MO_segment 40 = .ok (.invokevirtual 99, 3) := by decide +kernel
theorem d_MO_segment_43 : decode c_MO_segment 43 = .ok (.bipush 91, 2) := by decide +kernel
theorem d_MO_segment_45 : decode c_MO_segment 45 = .ok (.if_icmp .ne 7, 3) := by decide +kernel
theorem d_MO_segment_48 : decode c_MO_segment 48 = .ok (.iconst 1, 1) := by decide +kernel
theorem d_MO_segment_49 : decode c_MO_segment 49 = .ok (.goto 4, 3) := by decide +kernel
theorem d_MO_segment_52 : decode c_MO_segment 52 = .ok (.iconst 0, 1) := by decide +kernel
theorem d_MO_segment_53 : decode c_MO_segment 53 = .ok (.istore_n 2, 1) := by decide +kernel
theorem d_MO_segment_54 : decode c_MO_segment 54 = .ok (.aload_n 0, 1) := by decide +kernel
theorem d_MO_segment_55 : decode c_MO_segment 55 = .ok (.aload_n 0, 1) := by decide +kernel
theorem d_MO_segment_56 : decode c_MO_segment 56 = .ok (.getfield 272, 3) := by decide +kernel
theorem d_MO_segment_59 : decode c_MO_segment 59 = .ok (.ifCond .ne 34, 3) := by decide +kernel
theorem d_MO_segment_62 : decode c_MO_segment 62 = .ok (.iload_n 2, 1) := by decide +kernel
theorem d_MO_segment_63 : decode c_MO_segment 63 = .ok (.ifCond .eq 34, 3) := by decide +kernel
theorem d_MO_segment_66 : decode c_MO_segment 66 = .ok (.aload_n 0, 1) := by decide +kernel
theorem d_MO_segment_67 : decode c_MO_segment 67 = .ok (.getfield 96, 3) := by decide +kernel
theorem d_MO_segment_70 : decode c_MO_segment 70 = .ok (.ifCond .le 27, 3) := by decide +kernel
theorem d_MO_segment_73 : decode c_MO_segment 73 = .ok (.aload_n 0, 1) := by decide +kernel
theorem d_MO_segment_74 : decode c_MO_segment 74 = .ok (.getfield 39, 3) := by decide +kernel
theorem d_MO_segment_77 : decode c_MO_segment 77 = .ok (.aload_n 0, 1) := by decide +kernel
theorem d_MO_segment_78 : decode c_MO_segment 78 = .ok (.getfield 96, 3) := by decide +kernel
theorem d_MO_segment_81 : decode c_MO_segment 81 = .ok (.iconst 1, 1) := by decide +kernel
theorem d_MO_segment_82 : decode c_MO_segment 82 = .ok (.isub, 1) := by decide +kernel
theorem d_MO_segment_83 : decode c_MO_segment 83 = .ok (.caload, 1) := by decide +kernel
theorem d_MO_segment_84 : decode c_MO_segment 84 = .ok (.bipush 46, 2) := by decide +kernel
theorem d_MO_segment_86 : decode c_MO_segment 86 = .ok (.if_icmp .ne 11, 3) := by decide +kernel
theorem d_MO_segment_89 : decode c_MO_segment 89 = .ok (.iload_n 1, 1) := by decide +kernel
theorem d_MO_segment_90 : decode c_MO_segment 90 = .ok (.ifCond .ne 7, 3) := by decide +kernel
theorem d_MO_segment_93 : decode c_MO_segment 93 = .ok (.iconst 1, 1) := by decide +kernel
theorem d_MO_segment_94 : decode c_MO_segment 94 = .ok (.goto 4, 3) := by decide +kernel
theorem d_MO_segment_97 : decode c_MO_segment 97 = .ok (.iconst 0, 1) := by decide +kernel
theorem d_MO_segment_98 : decode c_MO_segment 98 = .ok (.putfield 272, 3) := by decide +kernel
theorem d_MO_segment_101 : decode c_MO_segment 101 = .ok (.aload_n 0, 1) := by decide +kernel
theorem d_MO_segment_102 : decode c_MO_segment 102 = .ok (.getfield 96, 3) := by decide +kernel
theorem d_MO_segment_105 : decode c_MO_segment 105 = .ok (.istore_n 3, 1) := by decide +kernel
theorem d_MO_segment_106 : decode c_MO_segment 106 = .ok (.aload_n 0, 1) := by decide +kernel
theorem d_MO_segment_107 : decode c_MO_segment 107 = .ok (.iconst 0, 1) := by decide +kernel
theorem d_MO_segment_108 : decode c_MO_segment 108 = .ok (.putfield 284, 3) := by decide +kernel
theorem d_MO_segment_111 : decode c_MO_segment 111 = .ok (.aload_n 0, 1) := by decide +kernel
theorem d_MO_segment_112 : decode c_MO_segment 112 = .ok (.getfield 265, 3) := by decide +kernel
theorem d_MO_segment_115 : decode c_MO_segment 115 = .ok (.ifCond .eq 94, 3) := by decide +kernel
theorem d_MO_segment_118 : decode c_MO_segment 118 = .ok (.iconst 0, 1) := by decide +kernel
theorem d_MO_segment_119 : decode c_MO_segment 119 = .ok (.istore 4, 2) := by decide +kernel
theorem d_MO_segment_121 : decode c_MO_segment 121 = .ok (.iload 4, 2) := by decide +kernel
theorem d_MO_segment_123 : decode c_MO_segment 123 = .ok (.aload_n 0, 1) := by decide +kernel
theorem d_MO_segment_124 : decode c_MO_segment 124 = .ok (.getfield 278, 3) := by decide +kernel
theorem d_MO_segment_127 : decode c_MO_segment 127 = .ok (.if_icmp .ge 82, 3) := by decide +kernel
theorem d_MO_segment_130 : decode c_MO_segment 130 = .ok (.iload_n 1, 1) := by decide +kernel
theorem d_MO_segment_131 : decode c_MO_segment 131 = .ok (.ifCond .eq 21, 3) := by decide +kernel
theorem d_MO_segment_134 : decode c_MO_segment 134 = .ok (.aload_n 0, 1) := by decide +kernel
theorem d_MO_segment_135 : decode c_MO_segment 135 = .ok (.aload_n 0, 1) := by decide +kernel
theorem d_MO_segment_136 : decode c_MO_segment 136 = .ok (.getfield 262, 3) := by decide +kernel
theorem d_MO_segment_139 : decode c_MO_segment 139 = .ok (.aload_n 0, 1) := by decide +kernel
theorem d_MO_segment_140 : decode c_MO_segment 140 = .ok (.getfield 48, 3) := by decide +kernel
theorem d_MO_segment_143 : decode c_MO_segment 143 = .ok (.iload 4, 2) := by decide +kernel
theorem d_MO_segment_145 : decode c_MO_segment 145 = .ok (.iaload, 1) := by decide +kernel
theorem d_MO_segment_146 : decode c_MO_segment 146 = .ok (.invokevirtual 81, 3) := by decide +kernel
theorem d_MO_segment_149 : decode c_MO_segment 149 = .ok (.goto 12, 3) := by decide +kernel
theorem d_MO_segment_152 : decode c_MO_segment 152 = .ok (.aload_n 0, 1) := by decide +kernel
theorem d_MO_segment_153 : decode c_MO_segment 153 = .ok (.getfield 48, 3) := by decide +kernel
theorem d_MO_segment_156 : decode c_MO_segment 156 = .ok (.iload 4, 2) := by decide +kernel
theorem d_MO_segment_158 : decode c_MO_segment 158 = .ok (.iaload, 1) := by decide +kernel
theorem d_MO_segment_159 : decode c_MO_segment 159 = .ok (.iconst 1, 1) := by decide +kernel
theorem d_MO_segment_160 : decode c_MO_segment 160 = .ok (.iadd, 1) := by decide +kernel
theorem d_MO_segment_161 : decode c_MO_segment 161 = .ok (.istore 5, 2) := by decide +kernel
theorem d_MO_segment_163 : decode c_MO_segment 163 = .ok (.aload_n 0, 1) := by decide +kernel
theorem d_MO_segment_164 : decode c_MO_segment 164 = .ok (.getfield 48, 3) := by decide +kernel
theorem d_MO_segment_167 : decode c_MO_segment 167 = .ok (.iload 4, 2) := by decide +kernel
theorem d_MO_segment_169 : decode c_MO_segment 169 = .ok (.iaload, 1) := by decide +kernel
theorem d_MO_segment_170 : decode c_MO_segment 170 = .ok (.istore 6, 2) := by decide +kernel
theorem d_MO_segment_172 : decode c_MO_segment 172 = .ok (.iload 6, 2) := by decide +kernel
theorem d_MO_segment_174 : decode c_MO_segment 174 = .ok (.iload 5, 2) := by decide +kernel
theorem d_MO_segment_176 : decode c_MO_segment 176 = .ok (.if_icmp .ge 27, 3) := by decide +kernel
theorem d_MO_segment_179 : decode c_MO_segment 179 = .ok (.aload_n 0, 1) := by decide +kernel
theorem d_MO_segment_180 : decode c_MO_segment 180 = .ok (.getfield 275, 3) := by decide +kernel
theorem d_MO_segment_183 : decode c_MO_segment 183 = .ok (.ifCond .ne 20, 3) := by decide +kernel
theorem d_MO_segment_186 : decode c_MO_segment 186 = .ok (.aload_n 0, 1) := by decide +kernel
theorem d_MO_segment_187 : decode c_MO_segment 187 = .ok (.iload_n 3, 1) := by decide +kernel
theorem d_MO_segment_188 : decode c_MO_segment 188 = .ok (.putfield 96, 3) := by decide +kernel
theorem d_MO_segment_191 : decode c_MO_segment 191 = .ok (.aload_n 0, 1) := by decide +kernel
theorem d_MO_segment_192 : decode c_MO_segment 192 = .ok (.iload 6, 2) := by decide +kernel
theorem d_MO_segment_194 : decode c_MO_segment 194 = .ok (.invokevirtual 287, 3) := by decide +kernel
theorem d_MO_segment_197 : decode c_MO_segment 197 = .ok (.iinc 6 1, 3) := by decide +kernel
theorem d_MO_segment_200 : decode c_MO_segment 200 = .ok (.goto (-28), 3) := by decide +kernel
theorem d_MO_segment_203 : decode c_MO_segment 203 = .ok (.iinc 4 1, 3) := by decide +kernel
theorem d_MO_segment_206 : decode c_MO_segment 206 = .ok (.goto (-85), 3) := by decide +kernel
theorem d_MO_segment_209 : decode c_MO_segment 209 = .ok (.aload_n 0, 1) := by decide +kernel
theorem d_MO_segment_210 : decode c_MO_segment 210 = .ok (.iload_n 3, 1) := by decide +kernel
theorem d_MO_segment_211 : decode c_MO_segment 211 = .ok (.putfield 96, 3) := by decide +kernel
theorem d_MO_segment_214 : decode c_MO_segment 214 = .ok (.aload_n 0, 1) := by decide +kernel
theorem d_MO_segment_215 : decode c_MO_segment 215 = .ok (.getfield 272, 3) := by decide +kernel
theorem d_MO_segment_218 : decode c_MO_segment 218 = .ok (.ifCond .ne 15, 3) := by decide +kernel
theorem d_MO_segment_221 : decode c_MO_segment 221 = .ok (.aload_n 0, 1) := by decide +kernel
theorem d_MO_segment_222 : decode c_MO_segment 222 = .ok (.getfield 275, 3) := by decide +kernel
theorem d_MO_segment_225 : decode c_MO_segment 225 = .ok (.ifCond .ne 8, 3) := by decide +kernel
theorem d_MO_segment_228 : decode c_MO_segment 228 = .ok (.aload_n 0, 1) := by decide +kernel
theorem d_MO_segment_229 : decode c_MO_segment 229 = .ok (.iconst (-1), 1) := by decide +kernel
theorem d_MO_segment_230 : decode c_MO_segment 230 = .ok (.invokevirtual 287, 3) := by decide +kernel
theorem d_MO_segment_233 : decode c_MO_segment 233 = .ok (.aload_n 0, 1) := by decide +kernel
theorem d_MO_segment_234 : decode c_MO_segment 234 = .ok (.aload_n 0, 1) := by decide +kernel
theorem d_MO_segment_235 : decode c_MO_segment 235 = .ok (.getfield 284, 3) := by decide +kernel
theorem d_MO_segment_238 : decode c_MO_segment 238 = .ok (.putfield 278, 3) := by decide +kernel
theorem d_MO_segment_241 : decode c_MO_segment 241 = .ok (.iconst 0, 1) := by decide +kernel
theorem d_MO_segment_242 : decode c_MO_segment 242 = .ok (.istore 4, 2) := by decide +kernel
theorem d_MO_segment_244 : decode c_MO_segment 244 = .ok (.iload 4, 2) := by decide +kernel
theorem d_MO_segment_246 : decode c_MO_segment 246 = .ok (.aload_n 0, 1) := by decide +kernel
theorem d_MO_segment_247 : decode c_MO_segment 247 = .ok (.getfield 284, 3) := by decide +kernel
theorem d_MO_segment_250 : decode c_MO_segment 250 = .ok (.if_icmp .ge 23, 3) := by decide +kernel
theorem d_MO_segment_253 : decode c_MO_segment 253 = .ok (.aload_n 0, 1) := by decide +kernel
theorem d_MO_segment_254 : decode c_MO_segment 254 = .ok (.getfield 48, 3) := by decide +kernel
theorem d_MO_segment_257 : decode c_MO_segment 257 = .ok (.iload 4, 2) := by decide +kernel
theorem d_MO_segment_259 : decode c_MO_segment 259 = .ok (.aload_n 0, 1) := by decide +kernel
theorem d_MO_segment_260 : decode c_MO_segment 260 = .ok (.getfield 51, 3) := by decide +kernel
theorem d_MO_segment_263 : decode c_MO_segment 263 = .ok (.iload 4, 2) := by decide +kernel
theorem d_MO_segment_265 : decode c_MO_segment 265 = .ok (.iaload, 1) := by decide +kernel
theorem d_MO_segment_266 : decode c_MO_segment 266 = .ok (.iastore, 1) := by decide +kernel
theorem d_MO_segment_267 : decode c_MO_segment 267 = .ok (.iinc 4 1, 3) := by decide +kernel
theorem d_MO_segment_270 : decode c_MO_segment 270 = .ok (.goto (-26), 3) := by decide +kernel
theorem d_MO_segment_273 : decode c_MO_segment 273 = .ok (.return_, 1) := by decide +kernel
def ws_MO_segment : List Cond := .code y_MO_segment c_MO_segment 7 none :: TBL
theorem d_MO_choose_0 : decode c_MO_choose 0 = .ok (.aload_n 0, 1) := by decide +kernel
theorem d_MO_choose_1 : decode c_MO_choose 1 = .ok (.bipush 91, 2) := by decide +kernel
theorem d_MO_choose_3 : decode c_MO_choose 3 = .ok (.invokevirtual 103, 3) := by decide +kernel
theorem d_MO_choose_6 : decode c_MO_choose 6 = .ok (.ifCond .ne 49, 3) := by decide +kernel
theorem d_MO_choose_9 : decode c_MO_choose 9 = .ok (.aload_n 0, 1) := by decide +kernel
theorem d_MO_choose_10 : decode c_MO_choose 10 = .ok (.bipush 42, 2) := by decide +kernel
theorem d_MO_choose_12 : decode c_MO_choose 12 = .ok (.invokevirtual 103, 3) := by decide +kernel
theorem d_MO_choose_15 : decode c_MO_choose 15 = .ok (.ifCond .eq 11, 3) := by decide +kernel
theorem d_MO_choose_18 : decode c_MO_choose 18 = .ok (.aload_n 0, 1) := by decide +kernel
theorem d_MO_choose_19 : decode c_MO_choose 19 = .ok (.iload_n 1, 1) := by decide +kernel
theorem d_MO_choose_20 : decode c_MO_choose 20 = .ok (.invokevirtual 290, 3) := by decide +kernel
theorem d_MO_choose_23 : decode c_MO_choose 23 = .ok (.goto 31, 3) := by decide +kernel
theorem d_MO_choose_26 : decode c_MO_choose 26 = .ok (.aload_n 0, 1) := by decide +kernel
theorem d_MO_choose_27 : decode c_MO_choose 27 = .ok (.invokevirtual 293, 3) := by decide +kernel
theorem d_MO_choose_30 : decode c_MO_choose 30 = .ok (.ifCond .eq 19, 3) := by decide +kernel
theorem d_MO_choose_33 : decode c_MO_choose 33 = .ok (.aload_n 0, 1) := by decide +kernel
theorem d_MO_choose_34 : decode c_MO_choose 34 = .ok (.aload_n 0, 1) := by decide +kernel
theorem d_MO_choose_35 : decode c_MO_choose 35 = .ok (.aload_n 0, 1) := by decide +kernel
theorem d_MO_choose_36 : decode c_MO_choose 36 = .ok (.getfield 262, 3) := by decide +kernel
theorem d_MO_choose_39 : decode c_MO_choose 39 = .ok (.iload_n 1, 1) := by decide +kernel
theorem d_MO_choose_40 : decode c_MO_choose 40 = .ok (.invokevirtual 170, 3) := by decide +kernel
theorem d_MO_choose_43 : decode c_MO_choose 43 = .ok (.invokevirtual 296, 3) := by decide +kernel
theorem d_MO_choose_46 : decode c_MO_choose 46 = .ok (.goto 8, 3) := by decide +kernel
theorem d_MO_choose_49 : decode c_MO_choose 49 = .ok (.aload_n 0, 1) := by decide +kernel
theorem d_MO_choose_50 : decode c_MO_choose 50 = .ok (.iconst 1, 1) := by decide +kernel
theorem d_MO_choose_51 : decode c_MO_choose 51 = .ok (.putfield 272, 3) := by decide +kernel
theorem d_MO_choose_54 : decode c_MO_choose 54 = .ok (.return_, 1) := by decide +kernel
theorem d_MO_choose_55 : decode c_MO_choose 55 = .ok (.iconst 1, 1) := by decide +kernel
theorem d_MO_choose_56 : decode c_MO_choose 56 = .ok (.istore_n 2, 1) := by decide +kernel
theorem d_MO_choose_57 : decode c_MO_choose 57 = .ok (.iload_n 2, 1) := by decide +kernel
theorem d_MO_choose_58 : decode c_MO_choose 58 = .ok (.ifCond .eq 33, 3) := by decide +kernel
theorem d_MO_choose_61 : decode c_MO_choose 61 = .ok (.aload_n 0, 1) := by decide +kernel
theorem d_MO_choose_62 : decode c_MO_choose 62 = .ok (.getfield 272, 3) := by decide +kernel
theorem d_MO_choose_65 : decode c_MO_choose 65 = .ok (.ifCond .ne 26, 3) := by decide +kernel
theorem d_MO_choose_68 : decode c_MO_choose 68 = .ok (.aload_n 0, 1) := by decide +kernel
theorem d_MO_choose_69 : decode c_MO_choose 69 = .ok (.invokevirtual 150, 3) := by decide +kernel
theorem d_MO_choose_72 : decode c_MO_choose 72 = .ok (.aload_n 0, 1) := by decide +kernel
theorem d_MO_choose_73 : decode c_MO_choose 73 = .ok (.iload_n 1, 1) := by decide +kernel
theorem d_MO_choose_74 : decode c_MO_choose 74 = .ok (.invokevirtual 299, 3) := by decide +kernel
theorem d_MO_choose_77 : decode c_MO_choose 77 = .ok (.aload_n 0, 1) := by decide +kernel
theorem d_MO_choose_78 : decode c_MO_choose 78 = .ok (.invokevirtual 150, 3) := by decide +kernel
theorem d_MO_choose_81 : decode c_MO_choose 81 = .ok (.aload_n 0, 1) := by decide +kernel
theorem d_MO_choose_82 : decode c_MO_choose 82 = .ok (.bipush 44, 2) := by decide +kernel
theorem d_MO_choose_84 : decode c_MO_choose 84 = .ok (.invokevirtual 103, 3) := by decide +kernel
theorem d_MO_choose_87 : decode c_MO_choose 87 = .ok (.istore_n 2, 1) := by decide +kernel
theorem d_MO_choose_88 : decode c_MO_choose 88 = .ok (.goto (-31), 3) := by decide +kernel
theorem d_MO_choose_91 : decode c_MO_choose 91 = .ok (.aload_n 0, 1) := by decide +kernel
theorem d_MO_choose_92 : decode c_MO_choose 92 = .ok (.aload_n 0, 1) := by decide +kernel
theorem d_MO_choose_93 : decode c_MO_choose 93 = .ok (.getfield 272, 3) := by decide +kernel
theorem d_MO_choose_96 : decode c_MO_choose 96 = .ok (.ifCond .ne 12, 3) := by decide +kernel
theorem d_MO_choose_99 : decode c_MO_choose 99 = .ok (.aload_n 0, 1) := by decide +kernel
theorem d_MO_choose_100 : decode c_MO_choose 100 = .ok (.bipush 93, 2) := by decide +kernel
theorem d_MO_choose_102 : decode c_MO_choose 102 = .ok (.invokevirtual 103, 3) := by decide +kernel
theorem d_MO_choose_105 : decode c_MO_choose 105 = .ok (.ifCond .ne 7, 3) := by decide +kernel
theorem d_MO_choose_108 : decode c_MO_choose 108 = .ok (.iconst 1, 1) := by decide +kernel
theorem d_MO_choose_109 : decode c_MO_choose 109 = .ok (.goto 4, 3) := by decide +kernel
theorem d_MO_choose_112 : decode c_MO_choose 112 = .ok (.iconst 0, 1) := by decide +kernel
theorem d_MO_choose_113 : decode c_MO_choose 113 = .ok (.putfield 272, 3) := by decide +kernel
theorem d_MO_choose_116 : decode c_MO_choose 116 = .ok (.return_, 1) := by decide +kernel
def ws_MO_choose : List Cond := .code y_MO_choose c_MO_choose 3 none :: TBL
theorem d_MO_all_0 : decode c_MO_all 0 = .ok (.iload_n 1, 1) := by decide +kernel
theorem d_MO_all_1 : decode c_MO_all 1 = .ok (.ifCond .ge 4, 3) := by decide +kernel
theorem d_MO_all_4 : decode c_MO_all 4 = .ok (.return_, 1) := by decide +kernel
theorem d_MO_all_5 : decode c_MO_all 5 = .ok (.aload_n 0, 1) := by decide +kernel
theorem d_MO_all_6 : decode c_MO_all 6 = .ok (.aload_n 0, 1) := by decide +kernel
theorem d_MO_all_7 : decode c_MO_all 7 = .ok (.getfield 262, 3) := by decide +kernel
theorem d_MO_all_10 : decode c_MO_all 10 = .ok (.iload_n 1, 1) := by decide +kernel
theorem d_MO_all_11 : decode c_MO_all 11 = .ok (.invokevirtual 81, 3) := by decide +kernel
theorem d_MO_all_14 : decode c_MO_all 14 = .ok (.istore_n 2, 1) := by decide +kernel
theorem d_MO_all_15 : decode c_MO_all 15 = .ok (.iload_n 1, 1) := by decide +kernel
theorem d_MO_all_16 : decode c_MO_all 16 = .ok (.iconst 1, 1) := by decide +kernel
theorem d_MO_all_17 : decode c_MO_all 17 = .ok (.iadd, 1) := by decide +kernel
theorem d_MO_all_18 : decode c_MO_all 18 = .ok (.istore_n 3, 1) := by decide +kernel
theorem d_MO_all_19 : decode c_MO_all 19 = .ok (.iload_n 3, 1) := by decide +kernel
theorem d_MO_all_20 : decode c_MO_all 20 = .ok (.iload_n 2, 1) := by decide +kernel
theorem d_MO_all_21 : decode c_MO_all 21 = .ok (.if_icmp .ge 21, 3) := by decide +kernel
theorem d_MO_all_24 : decode c_MO_all 24 = .ok (.aload_n 0, 1) := by decide +kernel
theorem d_MO_all_25 : decode c_MO_all 25 = .ok (.iload_n 3, 1) := by decide +kernel
theorem d_MO_all_26 : decode c_MO_all 26 = .ok (.invokevirtual 296, 3) := by decide +kernel
theorem d_MO_all_29 : decode c_MO_all 29 = .ok (.aload_n 0, 1) := by decide +kernel
theorem d_MO_all_30 : decode c_MO_all 30 = .ok (.aload_n 0, 1) := by decide +kernel
theorem d_MO_all_31 : decode c_MO_all 31 = .ok (.getfield 262, 3) := by decide +kernel
theorem d_MO_all_34 : decode c_MO_all 34 = .ok (.iload_n 3, 1) := by decide +kernel
theorem d_MO_all_35 : decode c_MO_all 35 = .ok (.invokevirtual 81, 3) := by decide +kernel
theorem d_MO_all_38 : decode c_MO_all 38 = .ok (.istore_n 3, 1) := by decide +kernel
theorem d_MO_all_39 : decode c_MO_all 39 = .ok (.goto (-20), 3) := by decide +kernel
theorem d_MO_all_42 : decode c_MO_all 42 = .ok (.return_, 1) := by decide +kernel
def ws_MO_all : List Cond := .code y_MO_all c_MO_all 4 none :: TBL
theorem d_MO_select_0 : decode c_MO_select 0 = .ok (.iload_n 1, 1) := by decide +kernel
theorem d_MO_select_1 : decode c_MO_select 1 = .ok (.ifCond .ge 4, 3) := by decide +kernel
theorem d_MO_select_4 : decode c_MO_select 4 = .ok (.return_, 1) := by decide +kernel
theorem d_MO_select_5 : decode c_MO_select 5 = .ok (.aload_n 0, 1) := by decide +kernel
theorem d_MO_select_6 : decode c_MO_select 6 = .ok (.getfield 284, 3) := by decide +kernel
theorem d_MO_select_9 : decode c_MO_select 9 = .ok (.bipush 40, 2) := by decide +kernel
theorem d_MO_select_11 : decode c_MO_select 11 = .ok (.if_icmp .ne 9, 3) := by decide +kernel
theorem d_MO_select_14 : decode c_MO_select 14 = .ok (.aload_n 0, 1) := by decide +kernel
theorem d_MO_select_15 : decode c_MO_select 15 = .ok (.iconst 1, 1) := by decide +kernel
theorem d_MO_select_16 : decode c_MO_select 16 = .ok (.putfield 275, 3) := by decide +kernel
theorem d_MO_select_19 : decode c_MO_select 19 = .ok (.return_, 1) := by decide +kernel
theorem d_MO_select_20 : decode c_MO_select 20 = .ok (.aload_n 0, 1) := by decide +kernel
theorem d_MO_select_21 : decode c_MO_select 21 = .ok (.getfield 51, 3) := by decide +kernel
theorem d_MO_select_24 : decode c_MO_select 24 = .ok (.aload_n 0, 1) := by decide +kernel
theorem d_MO_select_25 : decode c_MO_select 25 = .ok (.getfield 284, 3) := by decide +kernel
theorem d_MO_select_28 : decode c_MO_select 28 = .ok (.iload_n 1, 1) := by decide +kernel
theorem d_MO_select_29 : decode c_MO_select 29 = .ok (.iastore, 1) := by decide +kernel
theorem d_MO_select_30 : decode c_MO_select 30 = .ok (.aload_n 0, 1) := by decide +kernel
theorem d_MO_select_31 : decode c_MO_select 31 = .ok (.dup, 1) := by decide +kernel
theorem d_MO_select_32 : decode c_MO_select 32 = .ok (.getfield 284, 3) := by decide +kernel
theorem d_MO_select_35 : decode c_MO_select 35 = .ok (.iconst 1, 1) := by decide +kernel
theorem d_MO_select_36 : decode c_MO_select 36 = .ok (.iadd, 1) := by decide +kernel
theorem d_MO_select_37 : decode c_MO_select 37 = .ok (.putfield 284, 3) := by decide +kernel
theorem d_MO_select_40 : decode c_MO_select 40 = .ok (.return_, 1) := by decide +kernel
def ws_MO_select : List Cond := .code y_MO_select c_MO_select 2 none :: TBL
theorem d_MO_plainName_0 : decode c_MO_plainName 0 = .ok (.aload_n 0, 1) := by decide +kernel
theorem d_MO_plainName_1 : decode c_MO_plainName 1 = .ok (.iconst 0, 1) := by decide +kernel
theorem d_MO_plainName_2 : decode c_MO_plainName 2 = .ok (.putfield 107, 3) := by decide +kernel
theorem d_MO_plainName_5 : decode c_MO_plainName 5 = .ok (.aload_n 0, 1) := by decide +kernel
theorem d_MO_plainName_6 : decode c_MO_plainName 6 = .ok (.invokevirtual 99, 3) := by decide +kernel
theorem d_MO_plainName_9 : decode c_MO_plainName 9 = .ok (.invokestatic 302, 3) := by decide +kernel
theorem d_MO_plainName_12 : decode c_MO_plainName 12 = .ok (.ifCond .ne 5, 3) := by decide +kernel
theorem d_MO_plainName_15 : decode c_MO_plainName 15 = .ok (.iconst 0, 1) := by decide +kernel
theorem d_MO_plainName_16 : decode c_MO_plainName 16 = .ok (.ireturn, 1) := by decide +kernel
theorem d_MO_plainName_17 : decode c_MO_plainName 17 = .ok (.aload_n 0, 1) := by decide +kernel
theorem d_MO_plainName_18 : decode c_MO_plainName 18 = .ok (.invokevirtual 99, 3) := by decide +kernel
theorem d_MO_plainName_21 : decode c_MO_plainName 21 = .ok (.invokestatic 302, 3) := by decide +kernel
theorem d_MO_plainName_24 : decode c_MO_plainName 24 = .ok (.ifCond .ne 13, 3) := by decide +kernel
theorem d_MO_plainName_27 : decode c_MO_plainName 27 = .ok (.aload_n 0, 1) := by decide +kernel
theorem d_MO_plainName_28 : decode c_MO_plainName 28 = .ok (.invokevirtual 99, 3) := by decide +kernel
theorem d_MO_plainName_31 : decode c_MO_plainName 31 = .ok (.invokestatic 110, 3) := by decide +kernel
theorem d_MO_plainName_34 : decode c_MO_plainName 34 = .ok (.ifCond .eq 39, 3) := by decide +kernel
theorem d_MO_plainName_37 : decode c_MO_plainName 37 = .ok (.aload_n 0, 1) := by decide +kernel
theorem d_MO_plainName_38 : decode c_MO_plainName 38 = .ok (.getfield 45, 3) := by decide +kernel
theorem d_MO_plainName_41 : decode c_MO_plainName 41 = .ok (.aload_n 0, 1) := by decide +kernel
theorem d_MO_plainName_42 : decode c_MO_plainName 42 = .ok (.getfield 107, 3) := by decide +kernel
theorem d_MO_plainName_45 : decode c_MO_plainName 45 = .ok (.aload_n 0, 1) := by decide +kernel
theorem d_MO_plainName_46 : decode c_MO_plainName 46 = .ok (.invokevirtual 99, 3) := by decide +kernel
theorem d_MO_plainName_49 : decode c_MO_plainName 49 = .ok (.castore, 1) := by decide +kernel
theorem d_MO_plainName_50 : decode c_MO_plainName 50 = .ok (.aload_n 0, 1) := by decide +kernel
theorem d_MO_plainName_51 : decode c_MO_plainName 51 = .ok (.dup, 1) := by decide +kernel
theorem d_MO_plainName_52 : decode c_MO_plainName 52 = .ok (.getfield 107, 3) := by decide +kernel
theorem d_MO_plainName_55 : decode c_MO_plainName 55 = .ok (.iconst 1, 1) := by decide +kernel
theorem d_MO_plainName_56 : decode c_MO_plainName 56 = .ok (.iadd, 1) := by decide +kernel
theorem d_MO_plainName_57 : decode c_MO_plainName 57 = .ok (.putfield 107, 3) := by decide +kernel
theorem d_MO_plainName_60 : decode c_MO_plainName 60 = .ok (.aload_n 0, 1) := by decide +kernel
theorem d_MO_plainName_61 : decode c_MO_plainName 61 = .ok (.dup, 1) := by decide +kernel
theorem d_MO_plainName_62 : decode c_MO_plainName 62 = .ok (.getfield 96, 3) := by decide +kernel
theorem d_MO_plainName_65 : decode c_MO_plainName 65 = .ok (.iconst 1, 1) := by decide +kernel
theorem d_MO_plainName_66 : decode c_MO_plainName 66 = .ok (.iadd, 1) := by decide +kernel
theorem d_MO_plainName_67 : decode c_MO_plainName 67 = .ok (.putfield 96, 3) := by decide +kernel
theorem d_MO_plainName_70 : decode c_MO_plainName 70 = .ok (.goto (-53), 3) := by decide +kernel
theorem d_MO_plainName_73 : decode c_MO_plainName 73 = .ok (.iconst 1, 1) := by decide +kernel
theorem d_MO_plainName_74 : decode c_MO_plainName 74 = .ok (.ireturn, 1) := by decide +kernel
def ws_MO_plainName : List Cond := .code y_MO_plainName c_MO_plainName 1 (some .boolean) :: TBL
theorem d_MO_isLetter_0 : decode c_MO_isLetter 0 = .ok (.iload_n 0, 1) := by decide +kernel
theorem d_MO_isLetter_1 : decode c_MO_isLetter 1 = .ok (.bipush 97, 2) := by decide +kernel
theorem d_MO_isLetter_3 : decode c_MO_isLetter 3 = .ok (.if_icmp .lt 9, 3) := by decide +kernel
theorem d_MO_isLetter_6 : decode c_MO_isLetter 6 = .ok (.iload_n 0, 1) := by decide +kernel
theorem d_MO_isLetter_7 : decode c_MO_isLetter 7 = .ok (.bipush 122, 2) := by decide +kernel
theorem d_MO_isLetter_9 : decode c_MO_isLetter 9 = .ok (.if_icmp .le 21, 3) := by decide +kernel
theorem d_MO_isLetter_12 : decode c_MO_isLetter 12 = .ok (.iload_n 0, 1) := by decide +kernel
theorem d_MO_isLetter_13 : decode c_MO_isLetter 13 = .ok (.bipush 65, 2) := by decide +kernel
theorem d_MO_isLetter_15 : decode c_MO_isLetter 15 = .ok (.if_icmp .lt 9, 3) := by decide +kernel
theorem d_MO_isLetter_18 : decode c_MO_isLetter 18 = .ok (.iload_n 0, 1) := by decide +kernel
theorem d_MO_isLetter_19 : decode c_MO_isLetter 19 = .ok (.bipush 90, 2) := by decide +kernel
theorem d_MO_isLetter_21 : decode c_MO_isLetter 21 = .ok (.if_icmp .le 9, 3) := by decide +kernel
theorem d_MO_isLetter_24 : decode c_MO_isLetter 24 = .ok (.iload_n 0, 1) := by decide +kernel
theorem d_MO_isLetter_25 : decode c_MO_isLetter 25 = .ok (.bipush 95, 2) := by decide +kernel
theorem d_MO_isLetter_27 : decode c_MO_isLetter 27 = .ok (.if_icmp .ne 7, 3) := by decide +kernel
theorem d_MO_isLetter_30 : decode c_MO_isLetter 30 = .ok (.iconst 1, 1) := by decide +kernel
theorem d_MO_isLetter_31 : decode c_MO_isLetter 31 = .ok (.goto 4, 3) := by decide +kernel
theorem d_MO_isLetter_34 : decode c_MO_isLetter 34 = .ok (.iconst 0, 1) := by decide +kernel
theorem d_MO_isLetter_35 : decode c_MO_isLetter 35 = .ok (.ireturn, 1) := by decide +kernel
def ws_MO_isLetter : List Cond := .code y_MO_isLetter c_MO_isLetter 1 (some .boolean) :: TBL
theorem d_MO_selector_0 : decode c_MO_selector 0 = .ok (.aload_n 0, 1) := by decide +kernel
theorem d_MO_selector_1 : decode c_MO_selector 1 = .ok (.invokevirtual 99, 3) := by decide +kernel
theorem d_MO_selector_4 : decode c_MO_selector 4 = .ok (.istore_n 2, 1) := by decide +kernel
theorem d_MO_selector_5 : decode c_MO_selector 5 = .ok (.aload_n 0, 1) := by decide +kernel
theorem d_MO_selector_6 : decode c_MO_selector 6 = .ok (.bipush 42, 2) := by decide +kernel
theorem d_MO_selector_8 : decode c_MO_selector 8 = .ok (.invokevirtual 103, 3) := by decide +kernel
theorem d_MO_selector_11 : decode c_MO_selector 11 = .ok (.ifCond .eq 11, 3) := by decide +kernel
theorem d_MO_selector_14 : decode c_MO_selector 14 = .ok (.aload_n 0, 1) := by decide +kernel
theorem d_MO_selector_15 : decode c_MO_selector 15 = .ok (.iload_n 1, 1) := by decide +kernel
theorem d_MO_selector_16 : decode c_MO_selector 16 = .ok (.invokevirtual 290, 3) := by decide +kernel
theorem d_MO_selector_19 : decode c_MO_selector 19 = .ok (.goto 106, 3) := by decide +kernel
theorem d_MO_selector_22 : decode c_MO_selector 22 = .ok (.iload_n 2, 1) := by decide +kernel
theorem d_MO_selector_23 : decode c_MO_selector 23 = .ok (.bipush 34, 2) := by decide +kernel
theorem d_MO_selector_25 : decode c_MO_selector 25 = .ok (.if_icmp .eq 9, 3) := by decide +kernel
theorem d_MO_selector_28 : decode c_MO_selector 28 = .ok (.iload_n 2, 1) := by decide +kernel
theorem d_MO_selector_29 : decode c_MO_selector 29 = .ok (.bipush 39, 2) := by decide +kernel
theorem d_MO_selector_31 : decode c_MO_selector 31 = .ok (.if_icmp .ne 45, 3) := by decide +kernel
theorem d_MO_selector_34 : decode c_MO_selector 34 = .ok (.aload_n 0, 1) := by decide +kernel
theorem d_MO_selector_35 : decode c_MO_selector 35 = .ok (.dup, 1) := by decide +kernel
theorem d_MO_selector_36 : decode c_MO_selector 36 = .ok (.getfield 96, 3) := by decide +kernel
theorem d_MO_selector_39 : decode c_MO_selector 39 = .ok (.iconst 1, 1) := by decide +kernel
theorem d_MO_selector_40 : decode c_MO_selector 40 = .ok (.iadd, 1) := by decide +kernel
theorem d_MO_selector_41 : decode c_MO_selector 41 = .ok (.putfield 96, 3) := by decide +kernel
theorem d_MO_selector_44 : decode c_MO_selector 44 = .ok (.aload_n 0, 1) := by decide +kernel
theorem d_MO_selector_45 : decode c_MO_selector 45 = .ok (.iload_n 2, 1) := by decide +kernel
theorem d_MO_selector_46 : decode c_MO_selector 46 = .ok (.invokevirtual 134, 3) := by decide +kernel
theorem d_MO_selector_49 : decode c_MO_selector 49 = .ok (.ifCond .eq 19, 3) := by decide +kernel
theorem d_MO_selector_52 : decode c_MO_selector 52 = .ok (.aload_n 0, 1) := by decide +kernel
theorem d_MO_selector_53 : decode c_MO_selector 53 = .ok (.aload_n 0, 1) := by decide +kernel
theorem d_MO_selector_54 : decode c_MO_selector 54 = .ok (.aload_n 0, 1) := by decide +kernel
theorem d_MO_selector_55 : decode c_MO_selector 55 = .ok (.getfield 262, 3) := by decide +kernel
theorem d_MO_selector_58 : decode c_MO_selector 58 = .ok (.iload_n 1, 1) := by decide +kernel
theorem d_MO_selector_59 : decode c_MO_selector 59 = .ok (.invokevirtual 170, 3) := by decide +kernel
theorem d_MO_selector_62 : decode c_MO_selector 62 = .ok (.invokevirtual 296, 3) := by decide +kernel
theorem d_MO_selector_65 : decode c_MO_selector 65 = .ok (.goto 60, 3) := by decide +kernel
theorem d_MO_selector_68 : decode c_MO_selector 68 = .ok (.aload_n 0, 1) := by decide +kernel
theorem d_MO_selector_69 : decode c_MO_selector 69 = .ok (.iconst 1, 1) := by decide +kernel
theorem d_MO_selector_70 : decode c_MO_selector 70 = .ok (.putfield 272, 3) := by decide +kernel
theorem d_MO_selector_73 : decode c_MO_selector 73 = .ok (.goto 52, 3) := by decide +kernel
theorem d_MO_selector_76 : decode c_MO_selector 76 = .ok (.aload_n 0, 1) := by decide +kernel
theorem d_MO_selector_77 : decode c_MO_selector 77 = .ok (.bipush 63, 2) := by decide +kernel
theorem d_MO_selector_79 : decode c_MO_selector 79 = .ok (.invokevirtual 103, 3) := by decide +kernel
theorem d_MO_selector_82 : decode c_MO_selector 82 = .ok (.ifCond .eq 11, 3) := by decide +kernel
theorem d_MO_selector_85 : decode c_MO_selector 85 = .ok (.aload_n 0, 1) := by decide +kernel
theorem d_MO_selector_86 : decode c_MO_selector 86 = .ok (.iload_n 1, 1) := by decide +kernel
theorem d_MO_selector_87 : decode c_MO_selector 87 = .ok (.invokevirtual 305, 3) := by decide +kernel
theorem d_MO_selector_90 : decode c_MO_selector 90 = .ok (.goto 35, 3) := by decide +kernel
theorem d_MO_selector_93 : decode c_MO_selector 93 = .ok (.iload_n 2, 1) := by decide +kernel
theorem d_MO_selector_94 : decode c_MO_selector 94 = .ok (.bipush 45, 2) := by decide +kernel
theorem d_MO_selector_96 : decode c_MO_selector 96 = .ok (.if_icmp .eq 16, 3) := by decide +kernel
theorem d_MO_selector_99 : decode c_MO_selector 99 = .ok (.iload_n 2, 1) := by decide +kernel
theorem d_MO_selector_100 : decode c_MO_selector 100 = .ok (.bipush 58, 2) := by decide +kernel
theorem d_MO_selector_102 : decode c_MO_selector 102 = .ok (.if_icmp .eq 10, 3) := by decide +kernel
theorem d_MO_selector_105 : decode c_MO_selector 105 = .ok (.iload_n 2, 1) := by decide +kernel
theorem d_MO_selector_106 : decode c_MO_selector 106 = .ok (.invokestatic 110, 3) := by decide +kernel
theorem d_MO_selector_109 : decode c_MO_selector 109 = .ok (.ifCond .eq 11, 3) := by decide +kernel
theorem d_MO_selector_112 : decode c_MO_selector 112 = .ok (.aload_n 0, 1) := by decide +kernel
theorem d_MO_selector_113 : decode c_MO_selector 113 = .ok (.iload_n 1, 1) := by decide +kernel
theorem d_MO_selector_114 : decode c_MO_selector 114 = .ok (.invokevirtual 308, 3) := by decide +kernel
theorem d_MO_selector_117 : decode c_MO_selector 117 = .ok (.goto 8, 3) := by decide +kernel
theorem d_MO_selector_120 : decode c_MO_selector 120 = .ok (.aload_n 0, 1) := by decide +kernel
theorem d_MO_selector_121 : decode c_MO_selector 121 = .ok (.iconst 1, 1) := by decide +kernel
theorem d_MO_selector_122 : decode c_MO_selector 122 = .ok (.putfield 272, 3) := by decide +kernel
theorem d_MO_selector_125 : decode c_MO_selector 125 = .ok (.return_, 1) := by decide +kernel
def ws_MO_selector : List Cond := .code y_MO_selector c_MO_selector 3 none :: TBL
theorem d_MO_tested_0 : decode c_MO_tested 0 = .ok (.aload_n 0, 1) := by decide +kernel
theorem d_MO_tested_1 : decode c_MO_tested 1 = .ok (.getfield 96, 3) := by decide +kernel
theorem d_MO_tested_4 : decode c_MO_tested 4 = .ok (.istore_n 2, 1) := by decide +kernel
theorem d_MO_tested_5 : decode c_MO_tested 5 = .ok (.iload_n 1, 1) := by decide +kernel
theorem d_MO_tested_6 : decode c_MO_tested 6 = .ok (.ifCond .lt 59, 3) := by decide +kernel
theorem d_MO_tested_9 : decode c_MO_tested 9 = .ok (.aload_n 0, 1) := by decide +kernel
theorem d_MO_tested_10 : decode c_MO_tested 10 = .ok (.aload_n 0, 1) := by decide +kernel
theorem d_MO_tested_11 : decode c_MO_tested 11 = .ok (.getfield 262, 3) := by decide +kernel
theorem d_MO_tested_14 : decode c_MO_tested 14 = .ok (.iload_n 1, 1) := by decide +kernel
theorem d_MO_tested_15 : decode c_MO_tested 15 = .ok (.invokevirtual 81, 3) := by decide +kernel
theorem d_MO_tested_18 : decode c_MO_tested 18 = .ok (.istore_n 3, 1) := by decide +kernel
theorem d_MO_tested_19 : decode c_MO_tested 19 = .ok (.iload_n 1, 1) := by decide +kernel
theorem d_MO_tested_20 : decode c_MO_tested 20 = .ok (.iconst 1, 1) := by decide +kernel
theorem d_MO_tested_21 : decode c_MO_tested 21 = .ok (.iadd, 1) := by decide +kernel
theorem d_MO_tested_22 : decode c_MO_tested 22 = .ok (.istore 4, 2) := by decide +kernel
theorem d_MO_tested_24 : decode c_MO_tested 24 = .ok (.iload 4, 2) := by decide +kernel
theorem d_MO_tested_26 : decode c_MO_tested 26 = .ok (.iload_n 3, 1) := by decide +kernel
theorem d_MO_tested_27 : decode c_MO_tested 27 = .ok (.if_icmp .ge 38, 3) := by decide +kernel
theorem d_MO_tested_30 : decode c_MO_tested 30 = .ok (.aload_n 0, 1) := by decide +kernel
theorem d_MO_tested_31 : decode c_MO_tested 31 = .ok (.iload_n 2, 1) := by decide +kernel
theorem d_MO_tested_32 : decode c_MO_tested 32 = .ok (.putfield 96, 3) := by decide +kernel
theorem d_MO_tested_35 : decode c_MO_tested 35 = .ok (.aload_n 0, 1) := by decide +kernel
theorem d_MO_tested_36 : decode c_MO_tested 36 = .ok (.iload 4, 2) := by decide +kernel
theorem d_MO_tested_38 : decode c_MO_tested 38 = .ok (.invokevirtual 327, 3) := by decide +kernel
theorem d_MO_tested_41 : decode c_MO_tested 41 = .ok (.ifCond .eq 9, 3) := by decide +kernel
theorem d_MO_tested_44 : decode c_MO_tested 44 = .ok (.aload_n 0, 1) := by decide +kernel
theorem d_MO_tested_45 : decode c_MO_tested 45 = .ok (.iload 4, 2) := by decide +kernel
theorem d_MO_tested_47 : decode c_MO_tested 47 = .ok (.invokevirtual 296, 3) := by decide +kernel
theorem d_MO_tested_50 : decode c_MO_tested 50 = .ok (.aload_n 0, 1) := by decide +kernel
theorem d_MO_tested_51 : decode c_MO_tested 51 = .ok (.aload_n 0, 1) := by decide +kernel
theorem d_MO_tested_52 : decode c_MO_tested 52 = .ok (.getfield 262, 3) := by decide +kernel
theorem d_MO_tested_55 : decode c_MO_tested 55 = .ok (.iload 4, 2) := by decide +kernel
theorem d_MO_tested_57 : decode c_MO_tested 57 = .ok (.invokevirtual 81, 3) := by decide +kernel
theorem d_MO_tested_60 : decode c_MO_tested 60 = .ok (.istore 4, 2) := by decide +kernel
theorem d_MO_tested_62 : decode c_MO_tested 62 = .ok (.goto (-38), 3) := by decide +kernel
theorem d_MO_tested_65 : decode c_MO_tested 65 = .ok (.aload_n 0, 1) := by decide +kernel
theorem d_MO_tested_66 : decode c_MO_tested 66 = .ok (.iload_n 2, 1) := by decide +kernel
theorem d_MO_tested_67 : decode c_MO_tested 67 = .ok (.putfield 96, 3) := by decide +kernel
theorem d_MO_tested_70 : decode c_MO_tested 70 = .ok (.aload_n 0, 1) := by decide +kernel
theorem d_MO_tested_71 : decode c_MO_tested 71 = .ok (.iconst (-1), 1) := by decide +kernel
theorem d_MO_tested_72 : decode c_MO_tested 72 = .ok (.invokevirtual 327, 3) := by decide +kernel
theorem d_MO_tested_75 : decode c_MO_tested 75 = .ok (.pop, 1) := by decide +kernel
theorem d_MO_tested_76 : decode c_MO_tested 76 = .ok (.return_, 1) := by decide +kernel
def ws_MO_tested : List Cond := .code y_MO_tested c_MO_tested 5 none :: TBL
theorem d_MO_holds_0 : decode c_MO_holds 0 = .ok (.aload_n 0, 1) := by decide +kernel
theorem d_MO_holds_1 : decode c_MO_holds 1 = .ok (.aload_n 0, 1) := by decide +kernel
theorem d_MO_holds_2 : decode c_MO_holds 2 = .ok (.getfield 272, 3) := by decide +kernel
theorem d_MO_holds_5 : decode c_MO_holds 5 = .ok (.ifCond .ne 12, 3) := by decide +kernel
theorem d_MO_holds_8 : decode c_MO_holds 8 = .ok (.aload_n 0, 1) := by decide +kernel
theorem d_MO_holds_9 : decode c_MO_holds 9 = .ok (.bipush 64, 2) := by decide +kernel
theorem d_MO_holds_11 : decode c_MO_holds 11 = .ok (.invokevirtual 103, 3) := by decide +kernel
theorem d_MO_holds_14 : decode c_MO_holds 14 = .ok (.ifCond .ne 7, 3) := by decide +kernel
theorem d_MO_holds_17 : decode c_MO_holds 17 = .ok (.iconst 1, 1) := by decide +kernel
theorem d_MO_holds_18 : decode c_MO_holds 18 = .ok (.goto 4, 3) := by decide +kernel
theorem d_MO_holds_21 : decode c_MO_holds 21 = .ok (.iconst 0, 1) := by decide +kernel
theorem d_MO_holds_22 : decode c_MO_holds 22 = .ok (.putfield 272, 3) := by decide +kernel
theorem d_MO_holds_25 : decode c_MO_holds 25 = .ok (.iload_n 1, 1) := by decide +kernel
theorem d_MO_holds_26 : decode c_MO_holds 26 = .ok (.istore_n 2, 1) := by decide +kernel
theorem d_MO_holds_27 : decode c_MO_holds 27 = .ok (.iconst 1, 1) := by decide +kernel
theorem d_MO_holds_28 : decode c_MO_holds 28 = .ok (.istore_n 3, 1) := by decide +kernel
theorem d_MO_holds_29 : decode c_MO_holds 29 = .ok (.iload_n 3, 1) := by decide +kernel
theorem d_MO_holds_30 : decode c_MO_holds 30 = .ok (.ifCond .eq 71, 3) := by decide +kernel
theorem d_MO_holds_33 : decode c_MO_holds 33 = .ok (.aload_n 0, 1) := by decide +kernel
theorem d_MO_holds_34 : decode c_MO_holds 34 = .ok (.getfield 272, 3) := by decide +kernel
theorem d_MO_holds_37 : decode c_MO_holds 37 = .ok (.ifCond .ne 64, 3) := by decide +kernel
theorem d_MO_holds_40 : decode c_MO_holds 40 = .ok (.aload_n 0, 1) := by decide +kernel
theorem d_MO_holds_41 : decode c_MO_holds 41 = .ok (.bipush 46, 2) := by decide +kernel
theorem d_MO_holds_43 : decode c_MO_holds 43 = .ok (.invokevirtual 103, 3) := by decide +kernel
theorem d_MO_holds_46 : decode c_MO_holds 46 = .ok (.ifCond .eq 32, 3) := by decide +kernel
theorem d_MO_holds_49 : decode c_MO_holds 49 = .ok (.aload_n 0, 1) := by decide +kernel
theorem d_MO_holds_50 : decode c_MO_holds 50 = .ok (.aload_n 0, 1) := by decide +kernel
theorem d_MO_holds_51 : decode c_MO_holds 51 = .ok (.invokevirtual 293, 3) := by decide +kernel
theorem d_MO_holds_54 : decode c_MO_holds 54 = .ok (.ifCond .ne 7, 3) := by decide +kernel
theorem d_MO_holds_57 : decode c_MO_holds 57 = .ok (.iconst 1, 1) := by decide +kernel
theorem d_MO_holds_58 : decode c_MO_holds 58 = .ok (.goto 4, 3) := by decide +kernel
theorem d_MO_holds_61 : decode c_MO_holds 61 = .ok (.iconst 0, 1) := by decide +kernel
theorem d_MO_holds_62 : decode c_MO_holds 62 = .ok (.putfield 272, 3) := by decide +kernel
theorem d_MO_holds_65 : decode c_MO_holds 65 = .ok (.aload_n 0, 1) := by decide +kernel
theorem d_MO_holds_66 : decode c_MO_holds 66 = .ok (.aload_n 0, 1) := by decide +kernel
theorem d_MO_holds_67 : decode c_MO_holds 67 = .ok (.getfield 262, 3) := by decide +kernel
theorem d_MO_holds_70 : decode c_MO_holds 70 = .ok (.iload_n 2, 1) := by decide +kernel
theorem d_MO_holds_71 : decode c_MO_holds 71 = .ok (.invokevirtual 170, 3) := by decide +kernel
theorem d_MO_holds_74 : decode c_MO_holds 74 = .ok (.istore_n 2, 1) := by decide +kernel
theorem d_MO_holds_75 : decode c_MO_holds 75 = .ok (.goto (-46), 3) := by decide +kernel
theorem d_MO_holds_78 : decode c_MO_holds 78 = .ok (.aload_n 0, 1) := by decide +kernel
theorem d_MO_holds_79 : decode c_MO_holds 79 = .ok (.bipush 91, 2) := by decide +kernel
theorem d_MO_holds_81 : decode c_MO_holds 81 = .ok (.invokevirtual 103, 3) := by decide +kernel
theorem d_MO_holds_84 : decode c_MO_holds 84 = .ok (.ifCond .eq 12, 3) := by decide +kernel
theorem d_MO_holds_87 : decode c_MO_holds 87 = .ok (.aload_n 0, 1) := by decide +kernel
theorem d_MO_holds_88 : decode c_MO_holds 88 = .ok (.iload_n 2, 1) := by decide +kernel
theorem d_MO_holds_89 : decode c_MO_holds 89 = .ok (.invokevirtual 330, 3) := by decide +kernel
theorem d_MO_holds_92 : decode c_MO_holds 92 = .ok (.istore_n 2, 1) := by decide +kernel
theorem d_MO_holds_93 : decode c_MO_holds 93 = .ok (.goto (-64), 3) := by decide +kernel
theorem d_MO_holds_96 : decode c_MO_holds 96 = .ok (.iconst 0, 1) := by decide +kernel
theorem d_MO_holds_97 : decode c_MO_holds 97 = .ok (.istore_n 3, 1) := by decide +kernel
theorem d_MO_holds_98 : decode c_MO_holds 98 = .ok (.goto (-69), 3) := by decide +kernel
theorem d_MO_holds_101 : decode c_MO_holds 101 = .ok (.aload_n 0, 1) := by decide +kernel
theorem d_MO_holds_102 : decode c_MO_holds 102 = .ok (.getfield 96, 3) := by decide +kernel
theorem d_MO_holds_105 : decode c_MO_holds 105 = .ok (.istore 4, 2) := by decide +kernel
theorem d_MO_holds_107 : decode c_MO_holds 107 = .ok (.aload_n 0, 1) := by decide +kernel
theorem d_MO_holds_108 : decode c_MO_holds 108 = .ok (.invokevirtual 150, 3) := by decide +kernel
theorem d_MO_holds_111 : decode c_MO_holds 111 = .ok (.aload_n 0, 1) := by decide +kernel
theorem d_MO_holds_112 : decode c_MO_holds 112 = .ok (.invokevirtual 333, 3) := by decide +kernel
theorem d_MO_holds_115 : decode c_MO_holds 115 = .ok (.istore 5, 2) := by decide +kernel
theorem d_MO_holds_117 : decode c_MO_holds 117 = .ok (.iload 5, 2) := by decide +kernel
theorem d_MO_holds_119 : decode c_MO_holds 119 = .ok (.ifCond .ne 19, 3) := by decide +kernel
theorem d_MO_holds_122 : decode c_MO_holds 122 = .ok (.aload_n 0, 1) := by decide +kernel
theorem d_MO_holds_123 : decode c_MO_holds 123 = .ok (.iload 4, 2) := by decide +kernel
theorem d_MO_holds_125 : decode c_MO_holds 125 = .ok (.putfield 96, 3) := by decide +kernel
theorem d_MO_holds_128 : decode c_MO_holds 128 = .ok (.iload_n 2, 1) := by decide +kernel
theorem d_MO_holds_129 : decode c_MO_holds 129 = .ok (.ifCond .lt 7, 3) := by decide +kernel
theorem d_MO_holds_132 : decode c_MO_holds 132 = .ok (.iconst 1, 1) := by decide +kernel
theorem d_MO_holds_133 : decode c_MO_holds 133 = .ok (.goto 4, 3) := by decide +kernel
theorem d_MO_holds_136 : decode c_MO_holds 136 = .ok (.iconst 0, 1) := by decide +kernel
theorem d_MO_holds_137 : decode c_MO_holds 137 = .ok (.ireturn, 1) := by decide +kernel
theorem d_MO_holds_138 : decode c_MO_holds 138 = .ok (.aload_n 0, 1) := by decide +kernel
theorem d_MO_holds_139 : decode c_MO_holds 139 = .ok (.invokevirtual 150, 3) := by decide +kernel
theorem d_MO_holds_142 : decode c_MO_holds 142 = .ok (.aload_n 0, 1) := by decide +kernel
theorem d_MO_holds_143 : decode c_MO_holds 143 = .ok (.aload_n 0, 1) := by decide +kernel
theorem d_MO_holds_144 : decode c_MO_holds 144 = .ok (.getfield 272, 3) := by decide +kernel
theorem d_MO_holds_147 : decode c_MO_holds 147 = .ok (.ifCond .ne 22, 3) := by decide +kernel
theorem d_MO_holds_150 : decode c_MO_holds 150 = .ok (.aload_n 0, 1) := by decide +kernel
theorem d_MO_holds_151 : decode c_MO_holds 151 = .ok (.getfield 96, 3) := by decide +kernel
theorem d_MO_holds_154 : decode c_MO_holds 154 = .ok (.aload_n 0, 1) := by decide +kernel
theorem d_MO_holds_155 : decode c_MO_holds 155 = .ok (.getfield 93, 3) := by decide +kernel
theorem d_MO_holds_158 : decode c_MO_holds 158 = .ok (.if_icmp .ge 11, 3) := by decide +kernel
theorem d_MO_holds_161 : decode c_MO_holds 161 = .ok (.aload_n 0, 1) := by decide +kernel
theorem d_MO_holds_162 : decode c_MO_holds 162 = .ok (.iconst 1, 1) := by decide +kernel
theorem d_MO_holds_163 : decode c_MO_holds 163 = .ok (.invokevirtual 160, 3) := by decide +kernel
theorem d_MO_holds_166 : decode c_MO_holds 166 = .ok (.ifCond .ne 7, 3) := by decide +kernel
theorem d_MO_holds_169 : decode c_MO_holds 169 = .ok (.iconst 1, 1) := by decide +kernel
theorem d_MO_holds_170 : decode c_MO_holds 170 = .ok (.goto 4, 3) := by decide +kernel
theorem d_MO_holds_173 : decode c_MO_holds 173 = .ok (.iconst 0, 1) := by decide +kernel
theorem d_MO_holds_174 : decode c_MO_holds 174 = .ok (.putfield 272, 3) := by decide +kernel
theorem d_MO_holds_177 : decode c_MO_holds 177 = .ok (.aload_n 0, 1) := by decide +kernel
theorem d_MO_holds_178 : decode c_MO_holds 178 = .ok (.getfield 272, 3) := by decide +kernel
theorem d_MO_holds_181 : decode c_MO_holds 181 = .ok (.ifCond .ne 17, 3) := by decide +kernel
theorem d_MO_holds_184 : decode c_MO_holds 184 = .ok (.aload_n 0, 1) := by decide +kernel
theorem d_MO_holds_185 : decode c_MO_holds 185 = .ok (.iload_n 2, 1) := by decide +kernel
theorem d_MO_holds_186 : decode c_MO_holds 186 = .ok (.iload 5, 2) := by decide +kernel
theorem d_MO_holds_188 : decode c_MO_holds 188 = .ok (.invokevirtual 336, 3) := by decide +kernel
theorem d_MO_holds_191 : decode c_MO_holds 191 = .ok (.ifCond .eq 7, 3) := by decide +kernel
theorem d_MO_holds_194 : decode c_MO_holds 194 = .ok (.iconst 1, 1) := by decide +kernel
theorem d_MO_holds_195 : decode c_MO_holds 195 = .ok (.goto 4, 3) := by decide +kernel
theorem d_MO_holds_198 : decode c_MO_holds 198 = .ok (.iconst 0, 1) := by decide +kernel
theorem d_MO_holds_199 : decode c_MO_holds 199 = .ok (.ireturn, 1) := by decide +kernel
def ws_MO_holds : List Cond := .code y_MO_holds c_MO_holds 6 (some .boolean) :: TBL
theorem d_MO_access_0 : decode c_MO_access 0 = .ok (.aload_n 0, 1) := by decide +kernel
theorem d_MO_access_1 : decode c_MO_access 1 = .ok (.invokevirtual 150, 3) := by decide +kernel
theorem d_MO_access_4 : decode c_MO_access 4 = .ok (.aload_n 0, 1) := by decide +kernel
theorem d_MO_access_5 : decode c_MO_access 5 = .ok (.invokevirtual 99, 3) := by decide +kernel
theorem d_MO_access_8 : decode c_MO_access 8 = .ok (.istore_n 2, 1) := by decide +kernel
theorem d_MO_access_9 : decode c_MO_access 9 = .ok (.iload_n 2, 1) := by decide +kernel
theorem d_MO_access_10 : decode c_MO_access 10 = .ok (.bipush 34, 2) := by decide +kernel
theorem d_MO_access_12 : decode c_MO_access 12 = .ok (.if_icmp .eq 9, 3) := by decide +kernel
theorem d_MO_access_15 : decode c_MO_access 15 = .ok (.iload_n 2, 1) := by decide +kernel
theorem d_MO_access_16 : decode c_MO_access 16 = .ok (.bipush 39, 2) := by decide +kernel
theorem d_MO_access_18 : decode c_MO_access 18 = .ok (.if_icmp .ne 50, 3) := by decide +kernel
theorem d_MO_access_21 : decode c_MO_access 21 = .ok (.aload_n 0, 1) := by decide +kernel
theorem d_MO_access_22 : decode c_MO_access 22 = .ok (.dup, 1) := by decide +kernel
theorem d_MO_access_23 : decode c_MO_access 23 = .ok (.getfield 96, 3) := by decide +kernel
theorem d_MO_access_26 : decode c_MO_access 26 = .ok (.iconst 1, 1) := by decide +kernel
theorem d_MO_access_27 : decode c_MO_access 27 = .ok (.iadd, 1) := by decide +kernel
theorem d_MO_access_28 : decode c_MO_access 28 = .ok (.putfield 96, 3) := by decide +kernel
theorem d_MO_access_31 : decode c_MO_access 31 = .ok (.aload_n 0, 1) := by decide +kernel
theorem d_MO_access_32 : decode c_MO_access 32 = .ok (.aload_n 0, 1) := by decide +kernel
theorem d_MO_access_33 : decode c_MO_access 33 = .ok (.getfield 272, 3) := by decide +kernel
theorem d_MO_access_36 : decode c_MO_access 36 = .ok (.ifCond .ne 11, 3) := by decide +kernel
theorem d_MO_access_39 : decode c_MO_access 39 = .ok (.aload_n 0, 1) := by decide +kernel
theorem d_MO_access_40 : decode c_MO_access 40 = .ok (.iload_n 2, 1) := by decide +kernel
theorem d_MO_access_41 : decode c_MO_access 41 = .ok (.invokevirtual 134, 3) := by decide +kernel
theorem d_MO_access_44 : decode c_MO_access 44 = .ok (.ifCond .ne 7, 3) := by decide +kernel
theorem d_MO_access_47 : decode c_MO_access 47 = .ok (.iconst 1, 1) := by decide +kernel
theorem d_MO_access_48 : decode c_MO_access 48 = .ok (.goto 4, 3) := by decide +kernel
theorem d_MO_access_51 : decode c_MO_access 51 = .ok (.iconst 0, 1) := by decide +kernel
theorem d_MO_access_52 : decode c_MO_access 52 = .ok (.putfield 272, 3) := by decide +kernel
theorem d_MO_access_55 : decode c_MO_access 55 = .ok (.aload_n 0, 1) := by decide +kernel
theorem d_MO_access_56 : decode c_MO_access 56 = .ok (.aload_n 0, 1) := by decide +kernel
theorem d_MO_access_57 : decode c_MO_access 57 = .ok (.getfield 262, 3) := by decide +kernel
theorem d_MO_access_60 : decode c_MO_access 60 = .ok (.iload_n 1, 1) := by decide +kernel
theorem d_MO_access_61 : decode c_MO_access 61 = .ok (.invokevirtual 170, 3) := by decide +kernel
theorem d_MO_access_64 : decode c_MO_access 64 = .ok (.istore_n 3, 1) := by decide +kernel
theorem d_MO_access_65 : decode c_MO_access 65 = .ok (.goto 49, 3) := by decide +kernel
theorem d_MO_access_68 : decode c_MO_access 68 = .ok (.aload_n 0, 1) := by decide +kernel
theorem d_MO_access_69 : decode c_MO_access 69 = .ok (.invokevirtual 314, 3) := by decide +kernel
theorem d_MO_access_72 : decode c_MO_access 72 = .ok (.istore 4, 2) := by decide +kernel
theorem d_MO_access_74 : decode c_MO_access 74 = .ok (.aload_n 0, 1) := by decide +kernel
theorem d_MO_access_75 : decode c_MO_access 75 = .ok (.aload_n 0, 1) := by decide +kernel
theorem d_MO_access_76 : decode c_MO_access 76 = .ok (.getfield 272, 3) := by decide +kernel
theorem d_MO_access_79 : decode c_MO_access 79 = .ok (.ifCond .ne 10, 3) := by decide +kernel
theorem d_MO_access_82 : decode c_MO_access 82 = .ok (.aload_n 0, 1) := by decide +kernel
theorem d_MO_access_83 : decode c_MO_access 83 = .ok (.getfield 311, 3) := by decide +kernel
theorem d_MO_access_86 : decode c_MO_access 86 = .ok (.ifCond .ne 7, 3) := by decide +kernel
theorem d_MO_access_89 : decode c_MO_access 89 = .ok (.iconst 1, 1) := by decide +kernel
theorem d_MO_access_90 : decode c_MO_access 90 = .ok (.goto 4, 3) := by decide +kernel
theorem d_MO_access_93 : decode c_MO_access 93 = .ok (.iconst 0, 1) := by decide +kernel
theorem d_MO_access_94 : decode c_MO_access 94 = .ok (.putfield 272, 3) := by decide +kernel
theorem d_MO_access_97 : decode c_MO_access 97 = .ok (.aload_n 0, 1) := by decide +kernel
theorem d_MO_access_98 : decode c_MO_access 98 = .ok (.aload_n 0, 1) := by decide +kernel
theorem d_MO_access_99 : decode c_MO_access 99 = .ok (.getfield 262, 3) := by decide +kernel
theorem d_MO_access_102 : decode c_MO_access 102 = .ok (.iload_n 1, 1) := by decide +kernel
theorem d_MO_access_103 : decode c_MO_access 103 = .ok (.aload_n 0, 1) := by decide +kernel
theorem d_MO_access_104 : decode c_MO_access 104 = .ok (.iload_n 1, 1) := by decide +kernel
theorem d_MO_access_105 : decode c_MO_access 105 = .ok (.iload 4, 2) := by decide +kernel
theorem d_MO_access_107 : decode c_MO_access 107 = .ok (.invokevirtual 317, 3) := by decide +kernel
theorem d_MO_access_110 : decode c_MO_access 110 = .ok (.invokevirtual 250, 3) := by decide +kernel
theorem d_MO_access_113 : decode c_MO_access 113 = .ok (.istore_n 3, 1) := by decide +kernel
theorem d_MO_access_114 : decode c_MO_access 114 = .ok (.aload_n 0, 1) := by decide +kernel
theorem d_MO_access_115 : decode c_MO_access 115 = .ok (.invokevirtual 150, 3) := by decide +kernel
theorem d_MO_access_118 : decode c_MO_access 118 = .ok (.aload_n 0, 1) := by decide +kernel
theorem d_MO_access_119 : decode c_MO_access 119 = .ok (.aload_n 0, 1) := by decide +kernel
theorem d_MO_access_120 : decode c_MO_access 120 = .ok (.getfield 272, 3) := by decide +kernel
theorem d_MO_access_123 : decode c_MO_access 123 = .ok (.ifCond .ne 12, 3) := by decide +kernel
theorem d_MO_access_126 : decode c_MO_access 126 = .ok (.aload_n 0, 1) := by decide +kernel
theorem d_MO_access_127 : decode c_MO_access 127 = .ok (.bipush 93, 2) := by decide +kernel
theorem d_MO_access_129 : decode c_MO_access 129 = .ok (.invokevirtual 103, 3) := by decide +kernel
theorem d_MO_access_132 : decode c_MO_access 132 = .ok (.ifCond .ne 7, 3) := by decide +kernel
theorem d_MO_access_135 : decode c_MO_access 135 = .ok (.iconst 1, 1) := by decide +kernel
theorem d_MO_access_136 : decode c_MO_access 136 = .ok (.goto 4, 3) := by decide +kernel
theorem d_MO_access_139 : decode c_MO_access 139 = .ok (.iconst 0, 1) := by decide +kernel
theorem d_MO_access_140 : decode c_MO_access 140 = .ok (.putfield 272, 3) := by decide +kernel
theorem d_MO_access_143 : decode c_MO_access 143 = .ok (.iload_n 3, 1) := by decide +kernel
theorem d_MO_access_144 : decode c_MO_access 144 = .ok (.ireturn, 1) := by decide +kernel
def ws_MO_access : List Cond := .code y_MO_access c_MO_access 5 (some .int) :: TBL
theorem d_MO_readIndex_0 : decode c_MO_readIndex 0 = .ok (.aload_n 0, 1) := by decide +kernel
theorem d_MO_readIndex_1 : decode c_MO_readIndex 1 = .ok (.bipush 45, 2) := by decide +kernel
theorem d_MO_readIndex_3 : decode c_MO_readIndex 3 = .ok (.invokevirtual 103, 3) := by decide +kernel
theorem d_MO_readIndex_6 : decode c_MO_readIndex 6 = .ok (.istore_n 1, 1) := by decide +kernel
theorem d_MO_readIndex_7 : decode c_MO_readIndex 7 = .ok (.iconst 0, 1) := by decide +kernel
theorem d_MO_readIndex_8 : decode c_MO_readIndex 8 = .ok (.istore_n 2, 1) := by decide +kernel
theorem d_MO_readIndex_9 : decode c_MO_readIndex 9 = .ok (.iconst 0, 1) := by decide +kernel
theorem d_MO_readIndex_10 : decode c_MO_readIndex 10 = .ok (.istore_n 3, 1) := by decide +kernel
theorem d_MO_readIndex_11 : decode c_MO_readIndex 11 = .ok (.aload_n 0, 1) := by decide +kernel
theorem d_MO_readIndex_12 : decode c_MO_readIndex 12 = .ok (.invokevirtual 99, 3) := by decide +kernel
theorem d_MO_readIndex_15 : decode c_MO_readIndex 15 = .ok (.invokestatic 110, 3) := by decide +kernel
theorem d_MO_readIndex_18 : decode c_MO_readIndex 18 = .ok (.ifCond .eq 45, 3) := by decide +kernel
theorem d_MO_readIndex_21 : decode c_MO_readIndex 21 = .ok (.iload_n 3, 1) := by decide +kernel
theorem d_MO_readIndex_22 : decode c_MO_readIndex 22 = .ok (.iconst 3, 1) := by decide +kernel
theorem d_MO_readIndex_23 : decode c_MO_readIndex 23 = .ok (.if_icmp .ge 40, 3) := by decide +kernel
theorem d_MO_readIndex_26 : decode c_MO_readIndex 26 = .ok (.iload_n 3, 1) := by decide +kernel
theorem d_MO_readIndex_27 : decode c_MO_readIndex 27 = .ok (.ifCond .eq 7, 3) := by decide +kernel
theorem d_MO_readIndex_30 : decode c_MO_readIndex 30 = .ok (.iload_n 2, 1) := by decide +kernel
theorem d_MO_readIndex_31 : decode c_MO_readIndex 31 = .ok (.ifCond .le 32, 3) := by decide +kernel
theorem d_MO_readIndex_34 : decode c_MO_readIndex 34 = .ok (.bipush 10, 2) := by decide +kernel
theorem d_MO_readIndex_36 : decode c_MO_readIndex 36 = .ok (.iload_n 2, 1) := by decide +kernel
theorem d_MO_readIndex_37 : decode c_MO_readIndex 37 = .ok (.imul, 1) := by decide +kernel
theorem d_MO_readIndex_38 : decode c_MO_readIndex 38 = .ok (.aload_n 0, 1) := by decide +kernel
theorem d_MO_readIndex_39 : decode c_MO_readIndex 39 = .ok (.invokevirtual 99, 3) := by decide +kernel
theorem d_MO_readIndex_42 : decode c_MO_readIndex 42 = .ok (.iadd, 1) := by decide +kernel
theorem d_MO_readIndex_43 : decode c_MO_readIndex 43 = .ok (.bipush 48, 2) := by decide +kernel
theorem d_MO_readIndex_45 : decode c_MO_readIndex 45 = .ok (.isub, 1) := by decide +kernel
theorem d_MO_readIndex_46 : decode c_MO_readIndex 46 = .ok (.istore_n 2, 1) := by decide +kernel
theorem d_MO_readIndex_47 : decode c_MO_readIndex 47 = .ok (.iinc 3 1, 3) := by decide +kernel
theorem d_MO_readIndex_50 : decode c_MO_readIndex 50 = .ok (.aload_n 0, 1) := by decide +kernel
theorem d_MO_readIndex_51 : decode c_MO_readIndex 51 = .ok (.dup, 1) := by decide +kernel
theorem d_MO_readIndex_52 : decode c_MO_readIndex 52 = .ok (.getfield 96, 3) := by decide +kernel
theorem d_MO_readIndex_55 : decode c_MO_readIndex 55 = .ok (.iconst 1, 1) := by decide +kernel
theorem d_MO_readIndex_56 : decode c_MO_readIndex 56 = .ok (.iadd, 1) := by decide +kernel
theorem d_MO_readIndex_57 : decode c_MO_readIndex 57 = .ok (.putfield 96, 3) := by decide +kernel
theorem d_MO_readIndex_60 : decode c_MO_readIndex 60 = .ok (.goto (-49), 3) := by decide +kernel
theorem d_MO_readIndex_63 : decode c_MO_readIndex 63 = .ok (.aload_n 0, 1) := by decide +kernel
theorem d_MO_readIndex_64 : decode c_MO_readIndex 64 = .ok (.iload_n 3, 1) := by decide +kernel
theorem d_MO_readIndex_65 : decode c_MO_readIndex 65 = .ok (.ifCond .le 7, 3) := by decide +kernel
theorem d_MO_readIndex_68 : decode c_MO_readIndex 68 = .ok (.iconst 1, 1) := by decide +kernel
theorem d_MO_readIndex_69 : decode c_MO_readIndex 69 = .ok (.goto 4, 3) := by decide +kernel
theorem d_MO_readIndex_72 : decode c_MO_readIndex 72 = .ok (.iconst 0, 1) := by decide +kernel
theorem d_MO_readIndex_73 : decode c_MO_readIndex 73 = .ok (.putfield 311, 3) := by decide +kernel
theorem d_MO_readIndex_76 : decode c_MO_readIndex 76 = .ok (.aload_n 0, 1) := by decide +kernel
theorem d_MO_readIndex_77 : decode c_MO_readIndex 77 = .ok (.aload_n 0, 1) := by decide +kernel
theorem d_MO_readIndex_78 : decode c_MO_readIndex 78 = .ok (.getfield 272, 3) := by decide +kernel
theorem d_MO_readIndex_81 : decode c_MO_readIndex 81 = .ok (.ifCond .ne 15, 3) := by decide +kernel
theorem d_MO_readIndex_84 : decode c_MO_readIndex 84 = .ok (.iload_n 1, 1) := by decide +kernel
theorem d_MO_readIndex_85 : decode c_MO_readIndex 85 = .ok (.ifCond .eq 15, 3) := by decide +kernel
theorem d_MO_readIndex_88 : decode c_MO_readIndex 88 = .ok (.iload_n 3, 1) := by decide +kernel
theorem d_MO_readIndex_89 : decode c_MO_readIndex 89 = .ok (.ifCond .eq 7, 3) := by decide +kernel
theorem d_MO_readIndex_92 : decode c_MO_readIndex 92 = .ok (.iload_n 2, 1) := by decide +kernel
theorem d_MO_readIndex_93 : decode c_MO_readIndex 93 = .ok (.ifCond .ne 7, 3) := by decide +kernel
theorem d_MO_readIndex_96 : decode c_MO_readIndex 96 = .ok (.iconst 1, 1) := by decide +kernel
theorem d_MO_readIndex_97 : decode c_MO_readIndex 97 = .ok (.goto 4, 3) := by decide +kernel
theorem d_MO_readIndex_100 : decode c_MO_readIndex 100 = .ok (.iconst 0, 1) := by decide +kernel
theorem d_MO_readIndex_101 : decode c_MO_readIndex 101 = .ok (.putfield 272, 3) := by decide +kernel
theorem d_MO_readIndex_104 : decode c_MO_readIndex 104 = .ok (.iload_n 1, 1) := by decide +kernel
theorem d_MO_readIndex_105 : decode c_MO_readIndex 105 = .ok (.ifCond .eq 8, 3) := by decide +kernel
theorem d_MO_readIndex_108 : decode c_MO_readIndex 108 = .ok (.iload_n 2, 1) := by decide +kernel
theorem d_MO_readIndex_109 : decode c_MO_readIndex 109 = .ok (.ineg, 1) := by decide +kernel
theorem d_MO_readIndex_110 : decode c_MO_readIndex 110 = .ok (.goto 4, 3) := by decide +kernel
theorem d_MO_readIndex_113 : decode c_MO_readIndex 113 = .ok (.iload_n 2, 1) := by decide +kernel
theorem d_MO_readIndex_114 : decode c_MO_readIndex 114 = .ok (.ireturn, 1) := by decide +kernel
def ws_MO_readIndex : List Cond := .code y_MO_readIndex c_MO_readIndex 4 (some .int) :: TBL
theorem d_MO_counted_0 : decode c_MO_counted 0 = .ok (.iload_n 1, 1) := by decide +kernel
theorem d_MO_counted_1 : decode c_MO_counted 1 = .ok (.ifCond .lt 21, 3) := by decide +kernel
theorem d_MO_counted_4 : decode c_MO_counted 4 = .ok (.iload_n 2, 1) := by decide +kernel
theorem d_MO_counted_5 : decode c_MO_counted 5 = .ok (.ifCond .ge 17, 3) := by decide +kernel
theorem d_MO_counted_8 : decode c_MO_counted 8 = .ok (.iload_n 2, 1) := by decide +kernel
theorem d_MO_counted_9 : decode c_MO_counted 9 = .ok (.aload_n 0, 1) := by decide +kernel
theorem d_MO_counted_10 : decode c_MO_counted 10 = .ok (.aload_n 0, 1) := by decide +kernel
theorem d_MO_counted_11 : decode c_MO_counted 11 = .ok (.getfield 262, 3) := by decide +kernel
theorem d_MO_counted_14 : decode c_MO_counted 14 = .ok (.iload_n 1, 1) := by decide +kernel
theorem d_MO_counted_15 : decode c_MO_counted 15 = .ok (.invokevirtual 177, 3) := by decide +kernel
theorem d_MO_counted_18 : decode c_MO_counted 18 = .ok (.iadd, 1) := by decide +kernel
theorem d_MO_counted_19 : decode c_MO_counted 19 = .ok (.goto 4, 3) := by decide +kernel
theorem d_MO_counted_22 : decode c_MO_counted 22 = .ok (.iload_n 2, 1) := by decide +kernel
theorem d_MO_counted_23 : decode c_MO_counted 23 = .ok (.ireturn, 1) := by decide +kernel
def ws_MO_counted : List Cond := .code y_MO_counted c_MO_counted 3 (some .int) :: TBL
theorem d_MO_comparison_0 : decode c_MO_comparison 0 = .ok (.aload_n 0, 1) := by decide +kernel
theorem d_MO_comparison_1 : decode c_MO_comparison 1 = .ok (.bipush 60, 2) := by decide +kernel
theorem d_MO_comparison_3 : decode c_MO_comparison 3 = .ok (.invokevirtual 103, 3) := by decide +kernel
theorem d_MO_comparison_6 : decode c_MO_comparison 6 = .ok (.ifCond .eq 18, 3) := by decide +kernel
theorem d_MO_comparison_9 : decode c_MO_comparison 9 = .ok (.aload_n 0, 1) := by decide +kernel
theorem d_MO_comparison_10 : decode c_MO_comparison 10 = .ok (.bipush 61, 2) := by decide +kernel
theorem d_MO_comparison_12 : decode c_MO_comparison 12 = .ok (.invokevirtual 103, 3) := by decide +kernel
theorem d_MO_comparison_15 : decode c_MO_comparison 15 = .ok (.ifCond .eq 7, 3) := by decide +kernel
theorem d_MO_comparison_18 : decode c_MO_comparison 18 = .ok (.iconst 4, 1) := by decide +kernel
theorem d_MO_comparison_19 : decode c_MO_comparison 19 = .ok (.goto 4, 3) := by decide +kernel
theorem d_MO_comparison_22 : decode c_MO_comparison 22 = .ok (.iconst 3, 1) := by decide +kernel
theorem d_MO_comparison_23 : decode c_MO_comparison 23 = .ok (.ireturn, 1) := by decide +kernel
theorem d_MO_comparison_24 : decode c_MO_comparison 24 = .ok (.aload_n 0, 1) := by decide +kernel
theorem d_MO_comparison_25 : decode c_MO_comparison 25 = .ok (.bipush 62, 2) := by decide +kernel
theorem d_MO_comparison_27 : decode c_MO_comparison 27 = .ok (.invokevirtual 103, 3) := by decide +kernel
theorem d_MO_comparison_30 : decode c_MO_comparison 30 = .ok (.ifCond .eq 19, 3) := by decide +kernel
theorem d_MO_comparison_33 : decode c_MO_comparison 33 = .ok (.aload_n 0, 1) := by decide +kernel
theorem d_MO_comparison_34 : decode c_MO_comparison 34 = .ok (.bipush 61, 2) := by decide +kernel
theorem d_MO_comparison_36 : decode c_MO_comparison 36 = .ok (.invokevirtual 103, 3) := by decide +kernel
theorem d_MO_comparison_39 : decode c_MO_comparison 39 = .ok (.ifCond .eq 8, 3) := by decide +kernel
theorem d_MO_comparison_42 : decode c_MO_comparison 42 = .ok (.bipush 6, 2) := by decide +kernel
theorem d_MO_comparison_44 : decode c_MO_comparison 44 = .ok (.goto 4, 3) := by decide +kernel
theorem d_MO_comparison_47 : decode c_MO_comparison 47 = .ok (.iconst 5, 1) := by decide +kernel
theorem d_MO_comparison_48 : decode c_MO_comparison 48 = .ok (.ireturn, 1) := by decide +kernel
theorem d_MO_comparison_49 : decode c_MO_comparison 49 = .ok (.aload_n 0, 1) := by decide +kernel
theorem d_MO_comparison_50 : decode c_MO_comparison 50 = .ok (.invokevirtual 99, 3) := by decide +kernel
theorem d_MO_comparison_53 : decode c_MO_comparison 53 = .ok (.bipush 61, 2) := by decide +kernel
theorem d_MO_comparison_55 : decode c_MO_comparison 55 = .ok (.if_icmp .ne 7, 3) := by decide +kernel
theorem d_MO_comparison_58 : decode c_MO_comparison 58 = .ok (.iconst 1, 1) := by decide +kernel
theorem d_MO_comparison_59 : decode c_MO_comparison 59 = .ok (.goto 17, 3) := by decide +kernel
theorem d_MO_comparison_62 : decode c_MO_comparison 62 = .ok (.aload_n 0, 1) := by decide +kernel
theorem d_MO_comparison_63 : decode c_MO_comparison 63 = .ok (.invokevirtual 99, 3) := by decide +kernel
theorem d_MO_comparison_66 : decode c_MO_comparison 66 = .ok (.bipush 33, 2) := by decide +kernel
theorem d_MO_comparison_68 : decode c_MO_comparison 68 = .ok (.if_icmp .ne 7, 3) := by decide +kernel
theorem d_MO_comparison_71 : decode c_MO_comparison 71 = .ok (.iconst 2, 1) := by decide +kernel
theorem d_MO_comparison_72 : decode c_MO_comparison 72 = .ok (.goto 4, 3) := by decide +kernel
theorem d_MO_comparison_75 : decode c_MO_comparison 75 = .ok (.iconst 0, 1) := by decide +kernel
theorem d_MO_comparison_76 : decode c_MO_comparison 76 = .ok (.istore_n 1, 1) := by decide +kernel
theorem d_MO_comparison_77 : decode c_MO_comparison 77 = .ok (.iload_n 1, 1) := by decide +kernel
theorem d_MO_comparison_78 : decode c_MO_comparison 78 = .ok (.ifCond .ne 5, 3) := by decide +kernel
theorem d_MO_comparison_81 : decode c_MO_comparison 81 = .ok (.iconst 0, 1) := by decide +kernel
theorem d_MO_comparison_82 : decode c_MO_comparison 82 = .ok (.ireturn, 1) := by decide +kernel
theorem d_MO_comparison_83 : decode c_MO_comparison 83 = .ok (.aload_n 0, 1) := by decide +kernel
theorem d_MO_comparison_84 : decode c_MO_comparison 84 = .ok (.dup, 1) := by decide +kernel
theorem d_MO_comparison_85 : decode c_MO_comparison 85 = .ok (.getfield 96, 3) := by decide +kernel
theorem d_MO_comparison_88 : decode c_MO_comparison 88 = .ok (.iconst 1, 1) := by decide +kernel
theorem d_MO_comparison_89 : decode c_MO_comparison 89 = .ok (.iadd, 1) := by decide +kernel
theorem d_MO_comparison_90 : decode c_MO_comparison 90 = .ok (.putfield 96, 3) := by decide +kernel
theorem d_MO_comparison_93 : decode c_MO_comparison 93 = .ok (.aload_n 0, 1) := by decide +kernel
theorem d_MO_comparison_94 : decode c_MO_comparison 94 = .ok (.aload_n 0, 1) := by decide +kernel
theorem d_MO_comparison_95 : decode c_MO_comparison 95 = .ok (.getfield 272, 3) := by decide +kernel
theorem d_MO_comparison_98 : decode c_MO_comparison 98 = .ok (.ifCond .ne 12, 3) := by decide +kernel
theorem d_MO_comparison_101 : decode c_MO_comparison 101 = .ok (.aload_n 0, 1) := by decide +kernel
theorem d_MO_comparison_102 : decode c_MO_comparison 102 = .ok (.bipush 61, 2) := by decide +kernel
theorem d_MO_comparison_104 : decode c_MO_comparison 104 = .ok (.invokevirtual 103, 3) := by decide +kernel
theorem d_MO_comparison_107 : decode c_MO_comparison 107 = .ok (.ifCond .ne 7, 3) := by decide +kernel
theorem d_MO_comparison_110 : decode c_MO_comparison 110 = .ok (.iconst 1, 1) := by decide +kernel
theorem d_MO_comparison_111 : decode c_MO_comparison 111 = .ok (.goto 4, 3) := by decide +kernel
theorem d_MO_comparison_114 : decode c_MO_comparison 114 = .ok (.iconst 0, 1) := by decide +kernel
theorem d_MO_comparison_115 : decode c_MO_comparison 115 = .ok (.putfield 272, 3) := by decide +kernel
theorem d_MO_comparison_118 : decode c_MO_comparison 118 = .ok (.iload_n 1, 1) := by decide +kernel
theorem d_MO_comparison_119 : decode c_MO_comparison 119 = .ok (.ireturn, 1) := by decide +kernel
def ws_MO_comparison : List Cond := .code y_MO_comparison c_MO_comparison 2 (some .int) :: TBL
theorem d_MO_compared_0 : decode c_MO_compared 0 = .ok (.iload_n 1, 1) := by decide +kernel
theorem d_MO_compared_1 : decode c_MO_compared 1 = .ok (.ifCond .lt 20, 3) := by decide +kernel
theorem d_MO_compared_4 : decode c_MO_compared 4 = .ok (.aload_n 0, 1) := by decide +kernel
theorem d_MO_compared_5 : decode c_MO_compared 5 = .ok (.getfield 13, 3) := by decide +kernel
theorem d_MO_compared_8 : decode c_MO_compared 8 = .ok (.iload_n 1, 1) := by decide +kernel
theorem d_MO_compared_9 : decode c_MO_compared 9 = .ok (.iaload, 1) := by decide +kernel
theorem d_MO_compared_10 : decode c_MO_compared 10 = .ok (.aload_n 0, 1) := by decide +kernel
theorem d_MO_compared_11 : decode c_MO_compared 11 = .ok (.getfield 123, 3) := by decide +kernel
theorem d_MO_compared_14 : decode c_MO_compared 14 = .ok (.if_icmp .ne 7, 3) := by decide +kernel
theorem d_MO_compared_17 : decode c_MO_compared 17 = .ok (.iconst 1, 1) := by decide +kernel
theorem d_MO_compared_18 : decode c_MO_compared 18 = .ok (.goto 4, 3) := by decide +kernel
theorem d_MO_compared_21 : decode c_MO_compared 21 = .ok (.iconst 0, 1) := by decide +kernel
theorem d_MO_compared_22 : decode c_MO_compared 22 = .ok (.istore_n 3, 1) := by decide +kernel
theorem d_MO_compared_23 : decode c_MO_compared 23 = .ok (.iload_n 3, 1) := by decide +kernel
theorem d_MO_compared_24 : decode c_MO_compared 24 = .ok (.ifCond .eq 51, 3) := by decide +kernel
theorem d_MO_compared_27 : decode c_MO_compared 27 = .ok (.aload_n 0, 1) := by decide +kernel
theorem d_MO_compared_28 : decode c_MO_compared 28 = .ok (.getfield 123, 3) := by decide +kernel
theorem d_MO_compared_31 : decode c_MO_compared 31 = .ok (.iconst 3, 1) := by decide +kernel
theorem d_MO_compared_32 : decode c_MO_compared 32 = .ok (.if_icmp .ne 43, 3) := by decide +kernel
theorem d_MO_compared_35 : decode c_MO_compared 35 = .ok (.aload_n 0, 1) := by decide +kernel
theorem d_MO_compared_36 : decode c_MO_compared 36 = .ok (.getfield 31, 3) := by decide +kernel
theorem d_MO_compared_39 : decode c_MO_compared 39 = .ok (.iload_n 1, 1) := by decide +kernel
theorem d_MO_compared_40 : decode c_MO_compared 40 = .ok (.laload, 1) := by decide +kernel
theorem d_MO_compared_41 : decode c_MO_compared 41 = .ok (.aload_n 0, 1) := by decide +kernel
theorem d_MO_compared_42 : decode c_MO_compared 42 = .ok (.getfield 117, 3) := by decide +kernel
theorem d_MO_compared_45 : decode c_MO_compared 45 = .ok (.lcmp, 1) := by decide +kernel
theorem d_MO_compared_46 : decode c_MO_compared 46 = .ok (.ifCond .ge 7, 3) := by decide +kernel
theorem d_MO_compared_49 : decode c_MO_compared 49 = .ok (.iconst (-1), 1) := by decide +kernel
theorem d_MO_compared_50 : decode c_MO_compared 50 = .ok (.goto 46, 3) := by decide +kernel
theorem d_MO_compared_53 : decode c_MO_compared 53 = .ok (.aload_n 0, 1) := by decide +kernel
theorem d_MO_compared_54 : decode c_MO_compared 54 = .ok (.getfield 31, 3) := by decide +kernel
theorem d_MO_compared_57 : decode c_MO_compared 57 = .ok (.iload_n 1, 1) := by decide +kernel
theorem d_MO_compared_58 : decode c_MO_compared 58 = .ok (.laload, 1) := by decide +kernel
theorem d_MO_compared_59 : decode c_MO_compared 59 = .ok (.aload_n 0, 1) := by decide +kernel
theorem d_MO_compared_60 : decode c_MO_compared 60 = .ok (.getfield 117, 3) := by decide +kernel
theorem d_MO_compared_63 : decode c_MO_compared 63 = .ok (.lcmp, 1) := by decide +kernel
theorem d_MO_compared_64 : decode c_MO_compared 64 = .ok (.ifCond .le 7, 3) := by decide +kernel
theorem d_MO_compared_67 : decode c_MO_compared 67 = .ok (.iconst 1, 1) := by decide +kernel
theorem d_MO_compared_68 : decode c_MO_compared 68 = .ok (.goto 28, 3) := by decide +kernel
theorem d_MO_compared_71 : decode c_MO_compared 71 = .ok (.iconst 0, 1) := by decide +kernel
theorem d_MO_compared_72 : decode c_MO_compared 72 = .ok (.goto 24, 3) := by decide +kernel
theorem d_MO_compared_75 : decode c_MO_compared 75 = .ok (.iload_n 3, 1) := by decide +kernel
theorem d_MO_compared_76 : decode c_MO_compared 76 = .ok (.ifCond .eq 19, 3) := by decide +kernel
theorem d_MO_compared_79 : decode c_MO_compared 79 = .ok (.aload_n 0, 1) := by decide +kernel
theorem d_MO_compared_80 : decode c_MO_compared 80 = .ok (.getfield 123, 3) := by decide +kernel
theorem d_MO_compared_83 : decode c_MO_compared 83 = .ok (.iconst 4, 1) := by decide +kernel
theorem d_MO_compared_84 : decode c_MO_compared 84 = .ok (.if_icmp .ne 11, 3) := by decide +kernel
theorem d_MO_compared_87 : decode c_MO_compared 87 = .ok (.aload_n 0, 1) := by decide +kernel
theorem d_MO_compared_88 : decode c_MO_compared 88 = .ok (.iload_n 1, 1) := by decide +kernel
theorem d_MO_compared_89 : decode c_MO_compared 89 = .ok (.invokevirtual 339, 3) := by decide +kernel
theorem d_MO_compared_92 : decode c_MO_compared 92 = .ok (.goto 4, 3) := by decide +kernel
theorem d_MO_compared_95 : decode c_MO_compared 95 = .ok (.iconst 0, 1) := by decide +kernel
theorem d_MO_compared_96 : decode c_MO_compared 96 = .ok (.istore 4, 2) := by decide +kernel
theorem d_MO_compared_98 : decode c_MO_compared 98 = .ok (.iload_n 3, 1) := by decide +kernel
theorem d_MO_compared_99 : decode c_MO_compared 99 = .ok (.ifCond .eq 12, 3) := by decide +kernel
theorem d_MO_compared_102 : decode c_MO_compared 102 = .ok (.iload 4, 2) := by decide +kernel
theorem d_MO_compared_104 : decode c_MO_compared 104 = .ok (.ifCond .ne 7, 3) := by decide +kernel
theorem d_MO_compared_107 : decode c_MO_compared 107 = .ok (.iconst 1, 1) := by decide +kernel
theorem d_MO_compared_108 : decode c_MO_compared 108 = .ok (.goto 4, 3) := by decide +kernel
theorem d_MO_compared_111 : decode c_MO_compared 111 = .ok (.iconst 0, 1) := by decide +kernel
theorem d_MO_compared_112 : decode c_MO_compared 112 = .ok (.istore 5, 2) := by decide +kernel
theorem d_MO_compared_114 : decode c_MO_compared 114 = .ok (.iload_n 2, 1) := by decide +kernel
theorem d_MO_compared_115 : decode c_MO_compared 115 = .ok (.iconst 2, 1) := by decide +kernel
theorem d_MO_compared_116 : decode c_MO_compared 116 = .ok (.if_icmp .gt 24, 3) := by decide +kernel
theorem d_MO_compared_119 : decode c_MO_compared 119 = .ok (.iload 5, 2) := by decide +kernel
theorem d_MO_compared_121 : decode c_MO_compared 121 = .ok (.iload_n 2, 1) := by decide +kernel
theorem d_MO_compared_122 : decode c_MO_compared 122 = .ok (.iconst 1, 1) := by decide +kernel
theorem d_MO_compared_123 : decode c_MO_compared 123 = .ok (.if_icmp .ne 7, 3) := by decide +kernel
theorem d_MO_compared_126 : decode c_MO_compared 126 = .ok (.iconst 1, 1) := by decide +kernel
theorem d_MO_compared_127 : decode c_MO_compared 127 = .ok (.goto 4, 3) := by decide +kernel
theorem d_MO_compared_130 : decode c_MO_compared 130 = .ok (.iconst 0, 1) := by decide +kernel
theorem d_MO_compared_131 : decode c_MO_compared 131 = .ok (.if_icmp .ne 7, 3) := by decide +kernel
theorem d_MO_compared_134 : decode c_MO_compared 134 = .ok (.iconst 1, 1) := by decide +kernel
theorem d_MO_compared_135 : decode c_MO_compared 135 = .ok (.goto 4, 3) := by decide +kernel
theorem d_MO_compared_138 : decode c_MO_compared 138 = .ok (.iconst 0, 1) := by decide +kernel
theorem d_MO_compared_139 : decode c_MO_compared 139 = .ok (.ireturn, 1) := by decide +kernel
theorem d_MO_compared_140 : decode c_MO_compared 140 = .ok (.iload_n 2, 1) := by decide +kernel
theorem d_MO_compared_141 : decode c_MO_compared 141 = .ok (.iconst 4, 1) := by decide +kernel
theorem d_MO_compared_142 : decode c_MO_compared 142 = .ok (.if_icmp .eq 9, 3) := by decide +kernel
theorem d_MO_compared_145 : decode c_MO_compared 145 = .ok (.iload_n 2, 1) := by decide +kernel
theorem d_MO_compared_146 : decode c_MO_compared 146 = .ok (.bipush 6, 2) := by decide +kernel
theorem d_MO_compared_148 : decode c_MO_compared 148 = .ok (.if_icmp .ne 10, 3) := by decide +kernel
theorem d_MO_compared_151 : decode c_MO_compared 151 = .ok (.iload 5, 2) := by decide +kernel
theorem d_MO_compared_153 : decode c_MO_compared 153 = .ok (.ifCond .eq 5, 3) := by decide +kernel
theorem d_MO_compared_156 : decode c_MO_compared 156 = .ok (.iconst 1, 1) := by decide +kernel
theorem d_MO_compared_157 : decode c_MO_compared 157 = .ok (.ireturn, 1) := by decide +kernel
theorem d_MO_compared_158 : decode c_MO_compared 158 = .ok (.iload_n 3, 1) := by decide +kernel
theorem d_MO_compared_159 : decode c_MO_compared 159 = .ok (.ifCond .eq 25, 3) := by decide +kernel
theorem d_MO_compared_162 : decode c_MO_compared 162 = .ok (.iload_n 2, 1) := by decide +kernel
theorem d_MO_compared_163 : decode c_MO_compared 163 = .ok (.iconst 4, 1) := by decide +kernel
theorem d_MO_compared_164 : decode c_MO_compared 164 = .ok (.if_icmp .gt 11, 3) := by decide +kernel
theorem d_MO_compared_167 : decode c_MO_compared 167 = .ok (.iload 4, 2) := by decide +kernel
theorem d_MO_compared_169 : decode c_MO_compared 169 = .ok (.ifCond .ge 15, 3) := by decide +kernel
theorem d_MO_compared_172 : decode c_MO_compared 172 = .ok (.goto 8, 3) := by decide +kernel
theorem d_MO_compared_175 : decode c_MO_compared 175 = .ok (.iload 4, 2) := by decide +kernel
theorem d_MO_compared_177 : decode c_MO_compared 177 = .ok (.ifCond .le 7, 3) := by decide +kernel
theorem d_MO_compared_180 : decode c_MO_compared 180 = .ok (.iconst 1, 1) := by decide +kernel
theorem d_MO_compared_181 : decode c_MO_compared 181 = .ok (.goto 4, 3) := by decide +kernel
theorem d_MO_compared_184 : decode c_MO_compared 184 = .ok (.iconst 0, 1) := by decide +kernel
theorem d_MO_compared_185 : decode c_MO_compared 185 = .ok (.ireturn, 1) := by decide +kernel
def ws_MO_compared : List Cond := .code y_MO_compared c_MO_compared 6 (some .boolean) :: TBL
theorem d_MO_ordered_0 : decode c_MO_ordered 0 = .ok (.iconst 0, 1) := by decide +kernel
theorem d_MO_ordered_1 : decode c_MO_ordered 1 = .ok (.istore_n 2, 1) := by decide +kernel
theorem d_MO_ordered_2 : decode c_MO_ordered 2 = .ok (.iload_n 2, 1) := by decide +kernel
theorem d_MO_ordered_3 : decode c_MO_ordered 3 = .ok (.aload_n 0, 1) := by decide +kernel
theorem d_MO_ordered_4 : decode c_MO_ordered 4 = .ok (.getfield 22, 3) := by decide +kernel
theorem d_MO_ordered_7 : decode c_MO_ordered 7 = .ok (.iload_n 1, 1) := by decide +kernel
theorem d_MO_ordered_8 : decode c_MO_ordered 8 = .ok (.iaload, 1) := by decide +kernel
theorem d_MO_ordered_9 : decode c_MO_ordered 9 = .ok (.if_icmp .ge 39, 3) := by decide +kernel
theorem d_MO_ordered_12 : decode c_MO_ordered 12 = .ok (.iload_n 2, 1) := by decide +kernel
theorem d_MO_ordered_13 : decode c_MO_ordered 13 = .ok (.aload_n 0, 1) := by decide +kernel
theorem d_MO_ordered_14 : decode c_MO_ordered 14 = .ok (.getfield 107, 3) := by decide +kernel
theorem d_MO_ordered_17 : decode c_MO_ordered 17 = .ok (.if_icmp .ge 31, 3) := by decide +kernel
theorem d_MO_ordered_20 : decode c_MO_ordered 20 = .ok (.aload_n 0, 1) := by decide +kernel
theorem d_MO_ordered_21 : decode c_MO_ordered 21 = .ok (.getfield 35, 3) := by decide +kernel
theorem d_MO_ordered_24 : decode c_MO_ordered 24 = .ok (.aload_n 0, 1) := by decide +kernel
theorem d_MO_ordered_25 : decode c_MO_ordered 25 = .ok (.getfield 19, 3) := by decide +kernel
theorem d_MO_ordered_28 : decode c_MO_ordered 28 = .ok (.iload_n 1, 1) := by decide +kernel
theorem d_MO_ordered_29 : decode c_MO_ordered 29 = .ok (.iaload, 1) := by decide +kernel
theorem d_MO_ordered_30 : decode c_MO_ordered 30 = .ok (.iload_n 2, 1) := by decide +kernel
theorem d_MO_ordered_31 : decode c_MO_ordered 31 = .ok (.iadd, 1) := by decide +kernel
theorem d_MO_ordered_32 : decode c_MO_ordered 32 = .ok (.caload, 1) := by decide +kernel
theorem d_MO_ordered_33 : decode c_MO_ordered 33 = .ok (.aload_n 0, 1) := by decide +kernel
theorem d_MO_ordered_34 : decode c_MO_ordered 34 = .ok (.getfield 45, 3) := by decide +kernel
theorem d_MO_ordered_37 : decode c_MO_ordered 37 = .ok (.iload_n 2, 1) := by decide +kernel
theorem d_MO_ordered_38 : decode c_MO_ordered 38 = .ok (.caload, 1) := by decide +kernel
theorem d_MO_ordered_39 : decode c_MO_ordered 39 = .ok (.if_icmp .ne 9, 3) := by decide +kernel
theorem d_MO_ordered_42 : decode c_MO_ordered 42 = .ok (.iinc 2 1, 3) := by decide +kernel
theorem d_MO_ordered_45 : decode c_MO_ordered 45 = .ok (.goto (-43), 3) := by decide +kernel
theorem d_MO_ordered_48 : decode c_MO_ordered 48 = .ok (.iload_n 2, 1) := by decide +kernel
theorem d_MO_ordered_49 : decode c_MO_ordered 49 = .ok (.aload_n 0, 1) := by decide +kernel
theorem d_MO_ordered_50 : decode c_MO_ordered 50 = .ok (.getfield 22, 3) := by decide +kernel
theorem d_MO_ordered_53 : decode c_MO_ordered 53 = .ok (.iload_n 1, 1) := by decide +kernel
theorem d_MO_ordered_54 : decode c_MO_ordered 54 = .ok (.iaload, 1) := by decide +kernel
theorem d_MO_ordered_55 : decode c_MO_ordered 55 = .ok (.if_icmp .eq 11, 3) := by decide +kernel
theorem d_MO_ordered_58 : decode c_MO_ordered 58 = .ok (.iload_n 2, 1) := by decide +kernel
theorem d_MO_ordered_59 : decode c_MO_ordered 59 = .ok (.aload_n 0, 1) := by decide +kernel
theorem d_MO_ordered_60 : decode c_MO_ordered 60 = .ok (.getfield 107, 3) := by decide +kernel
theorem d_MO_ordered_63 : decode c_MO_ordered 63 = .ok (.if_icmp .ne 39, 3) := by decide +kernel
theorem d_MO_ordered_66 : decode c_MO_ordered 66 = .ok (.aload_n 0, 1) := by decide +kernel
theorem d_MO_ordered_67 : decode c_MO_ordered 67 = .ok (.getfield 22, 3) := by decide +kernel
theorem d_MO_ordered_70 : decode c_MO_ordered 70 = .ok (.iload_n 1, 1) := by decide +kernel
theorem d_MO_ordered_71 : decode c_MO_ordered 71 = .ok (.iaload, 1) := by decide +kernel
theorem d_MO_ordered_72 : decode c_MO_ordered 72 = .ok (.aload_n 0, 1) := by decide +kernel
theorem d_MO_ordered_73 : decode c_MO_ordered 73 = .ok (.getfield 107, 3) := by decide +kernel
theorem d_MO_ordered_76 : decode c_MO_ordered 76 = .ok (.if_icmp .ge 7, 3) := by decide +kernel
theorem d_MO_ordered_79 : decode c_MO_ordered 79 = .ok (.iconst (-1), 1) := by decide +kernel
theorem d_MO_ordered_80 : decode c_MO_ordered 80 = .ok (.goto 21, 3) := by decide +kernel
theorem d_MO_ordered_83 : decode c_MO_ordered 83 = .ok (.aload_n 0, 1) := by decide +kernel
theorem d_MO_ordered_84 : decode c_MO_ordered 84 = .ok (.getfield 22, 3) := by decide +kernel
theorem d_MO_ordered_87 : decode c_MO_ordered 87 = .ok (.iload_n 1, 1) := by decide +kernel
theorem d_MO_ordered_88 : decode c_MO_ordered 88 = .ok (.iaload, 1) := by decide +kernel
theorem d_MO_ordered_89 : decode c_MO_ordered 89 = .ok (.aload_n 0, 1) := by decide +kernel
theorem d_MO_ordered_90 : decode c_MO_ordered 90 = .ok (.getfield 107, 3) := by decide +kernel
theorem d_MO_ordered_93 : decode c_MO_ordered 93 = .ok (.if_icmp .le 7, 3) := by decide +kernel
theorem d_MO_ordered_96 : decode c_MO_ordered 96 = .ok (.iconst 1, 1) := by decide +kernel
theorem d_MO_ordered_97 : decode c_MO_ordered 97 = .ok (.goto 4, 3) := by decide +kernel
theorem d_MO_ordered_100 : decode c_MO_ordered 100 = .ok (.iconst 0, 1) := by decide +kernel
theorem d_MO_ordered_101 : decode c_MO_ordered 101 = .ok (.ireturn, 1) := by decide +kernel
theorem d_MO_ordered_102 : decode c_MO_ordered 102 = .ok (.aload_n 0, 1) := by decide +kernel
theorem d_MO_ordered_103 : decode c_MO_ordered 103 = .ok (.getfield 35, 3) := by decide +kernel
theorem d_MO_ordered_106 : decode c_MO_ordered 106 = .ok (.aload_n 0, 1) := by decide +kernel
theorem d_MO_ordered_107 : decode c_MO_ordered 107 = .ok (.getfield 19, 3) := by decide +kernel
theorem d_MO_ordered_110 : decode c_MO_ordered 110 = .ok (.iload_n 1, 1) := by decide +kernel
theorem d_MO_ordered_111 : decode c_MO_ordered 111 = .ok (.iaload, 1) := by decide +kernel
theorem d_MO_ordered_112 : decode c_MO_ordered 112 = .ok (.iload_n 2, 1) := by decide +kernel
theorem d_MO_ordered_113 : decode c_MO_ordered 113 = .ok (.iadd, 1) := by decide +kernel
theorem d_MO_ordered_114 : decode c_MO_ordered 114 = .ok (.caload, 1) := by decide +kernel
theorem d_MO_ordered_115 : decode c_MO_ordered 115 = .ok (.aload_n 0, 1) := by decide +kernel
theorem d_MO_ordered_116 : decode c_MO_ordered 116 = .ok (.getfield 45, 3) := by decide +kernel
theorem d_MO_ordered_119 : decode c_MO_ordered 119 = .ok (.iload_n 2, 1) := by decide +kernel
theorem d_MO_ordered_120 : decode c_MO_ordered 120 = .ok (.caload, 1) := by decide +kernel
theorem d_MO_ordered_121 : decode c_MO_ordered 121 = .ok (.if_icmp .ge 7, 3) := by decide +kernel
theorem d_MO_ordered_124 : decode c_MO_ordered 124 = .ok (.iconst (-1), 1) := by decide +kernel
theorem d_MO_ordered_125 : decode c_MO_ordered 125 = .ok (.goto 4, 3) := by decide +kernel
theorem d_MO_ordered_128 : decode c_MO_ordered 128 = .ok (.iconst 1, 1) := by decide +kernel
theorem d_MO_ordered_129 : decode c_MO_ordered 129 = .ok (.ireturn, 1) := by decide +kernel
def ws_MO_ordered : List Cond := .code y_MO_ordered c_MO_ordered 3 (some .int) :: TBL
theorem d_MO_numbered_0 : decode c_MO_numbered 0 = .ok (.aload_n 0, 1) := by decide +kernel
theorem d_MO_numbered_1 : decode c_MO_numbered 1 = .ok (.invokevirtual 314, 3) := by decide +kernel
theorem d_MO_numbered_4 : decode c_MO_numbered 4 = .ok (.istore_n 2, 1) := by decide +kernel
theorem d_MO_numbered_5 : decode c_MO_numbered 5 = .ok (.aload_n 0, 1) := by decide +kernel
theorem d_MO_numbered_6 : decode c_MO_numbered 6 = .ok (.getfield 311, 3) := by decide +kernel
theorem d_MO_numbered_9 : decode c_MO_numbered 9 = .ok (.istore_n 3, 1) := by decide +kernel
theorem d_MO_numbered_10 : decode c_MO_numbered 10 = .ok (.aload_n 0, 1) := by decide +kernel
theorem d_MO_numbered_11 : decode c_MO_numbered 11 = .ok (.bipush 58, 2) := by decide +kernel
theorem d_MO_numbered_13 : decode c_MO_numbered 13 = .ok (.invokevirtual 103, 3) := by decide +kernel
theorem d_MO_numbered_16 : decode c_MO_numbered 16 = .ok (.ifCond .ne 50, 3) := by decide +kernel
theorem d_MO_numbered_19 : decode c_MO_numbered 19 = .ok (.aload_n 0, 1) := by decide +kernel
theorem d_MO_numbered_20 : decode c_MO_numbered 20 = .ok (.aload_n 0, 1) := by decide +kernel
theorem d_MO_numbered_21 : decode c_MO_numbered 21 = .ok (.getfield 272, 3) := by decide +kernel
theorem d_MO_numbered_24 : decode c_MO_numbered 24 = .ok (.ifCond .ne 7, 3) := by decide +kernel
theorem d_MO_numbered_27 : decode c_MO_numbered 27 = .ok (.iload_n 3, 1) := by decide +kernel
theorem d_MO_numbered_28 : decode c_MO_numbered 28 = .ok (.ifCond .ne 7, 3) := by decide +kernel
theorem d_MO_numbered_31 : decode c_MO_numbered 31 = .ok (.iconst 1, 1) := by decide +kernel
theorem d_MO_numbered_32 : decode c_MO_numbered 32 = .ok (.goto 4, 3) := by decide +kernel
theorem d_MO_numbered_35 : decode c_MO_numbered 35 = .ok (.iconst 0, 1) := by decide +kernel
theorem d_MO_numbered_36 : decode c_MO_numbered 36 = .ok (.putfield 272, 3) := by decide +kernel
theorem d_MO_numbered_39 : decode c_MO_numbered 39 = .ok (.aload_n 0, 1) := by decide +kernel
theorem d_MO_numbered_40 : decode c_MO_numbered 40 = .ok (.getfield 272, 3) := by decide +kernel
theorem d_MO_numbered_43 : decode c_MO_numbered 43 = .ok (.ifCond .ne 22, 3) := by decide +kernel
theorem d_MO_numbered_46 : decode c_MO_numbered 46 = .ok (.aload_n 0, 1) := by decide +kernel
theorem d_MO_numbered_47 : decode c_MO_numbered 47 = .ok (.aload_n 0, 1) := by decide +kernel
theorem d_MO_numbered_48 : decode c_MO_numbered 48 = .ok (.aload_n 0, 1) := by decide +kernel
theorem d_MO_numbered_49 : decode c_MO_numbered 49 = .ok (.getfield 262, 3) := by decide +kernel
theorem d_MO_numbered_52 : decode c_MO_numbered 52 = .ok (.iload_n 1, 1) := by decide +kernel
theorem d_MO_numbered_53 : decode c_MO_numbered 53 = .ok (.aload_n 0, 1) := by decide +kernel
theorem d_MO_numbered_54 : decode c_MO_numbered 54 = .ok (.iload_n 1, 1) := by decide +kernel
theorem d_MO_numbered_55 : decode c_MO_numbered 55 = .ok (.iload_n 2, 1) := by decide +kernel
theorem d_MO_numbered_56 : decode c_MO_numbered 56 = .ok (.invokevirtual 317, 3) := by decide +kernel
theorem d_MO_numbered_59 : decode c_MO_numbered 59 = .ok (.invokevirtual 250, 3) := by decide +kernel
theorem d_MO_numbered_62 : decode c_MO_numbered 62 = .ok (.invokevirtual 296, 3) := by decide +kernel
theorem d_MO_numbered_65 : decode c_MO_numbered 65 = .ok (.return_, 1) := by decide +kernel
theorem d_MO_numbered_66 : decode c_MO_numbered 66 = .ok (.aload_n 0, 1) := by decide +kernel
theorem d_MO_numbered_67 : decode c_MO_numbered 67 = .ok (.invokevirtual 314, 3) := by decide +kernel
theorem d_MO_numbered_70 : decode c_MO_numbered 70 = .ok (.istore 4, 2) := by decide +kernel
theorem d_MO_numbered_72 : decode c_MO_numbered 72 = .ok (.aload_n 0, 1) := by decide +kernel
theorem d_MO_numbered_73 : decode c_MO_numbered 73 = .ok (.getfield 311, 3) := by decide +kernel
theorem d_MO_numbered_76 : decode c_MO_numbered 76 = .ok (.istore 5, 2) := by decide +kernel
theorem d_MO_numbered_78 : decode c_MO_numbered 78 = .ok (.iconst 1, 1) := by decide +kernel
theorem d_MO_numbered_79 : decode c_MO_numbered 79 = .ok (.istore 6, 2) := by decide +kernel
theorem d_MO_numbered_81 : decode c_MO_numbered 81 = .ok (.aload_n 0, 1) := by decide +kernel
theorem d_MO_numbered_82 : decode c_MO_numbered 82 = .ok (.bipush 58, 2) := by decide +kernel
theorem d_MO_numbered_84 : decode c_MO_numbered 84 = .ok (.invokevirtual 103, 3) := by decide +kernel
theorem d_MO_numbered_87 : decode c_MO_numbered 87 = .ok (.ifCond .eq 24, 3) := by decide +kernel
theorem d_MO_numbered_90 : decode c_MO_numbered 90 = .ok (.aload_n 0, 1) := by decide +kernel
theorem d_MO_numbered_91 : decode c_MO_numbered 91 = .ok (.invokevirtual 314, 3) := by decide +kernel
theorem d_MO_numbered_94 : decode c_MO_numbered 94 = .ok (.istore 7, 2) := by decide +kernel
theorem d_MO_numbered_96 : decode c_MO_numbered 96 = .ok (.aload_n 0, 1) := by decide +kernel
theorem d_MO_numbered_97 : decode c_MO_numbered 97 = .ok (.getfield 311, 3) := by decide +kernel
theorem d_MO_numbered_100 : decode c_MO_numbered 100 = .ok (.ifCond .eq 8, 3) := by decide +kernel
theorem d_MO_numbered_103 : decode c_MO_numbered 103 = .ok (.iload 7, 2) := by decide +kernel
theorem d_MO_numbered_105 : decode c_MO_numbered 105 = .ok (.goto 4, 3) := by decide +kernel
theorem d_MO_numbered_108 : decode c_MO_numbered 108 = .ok (.iconst 1, 1) := by decide +kernel
theorem d_MO_numbered_109 : decode c_MO_numbered 109 = .ok (.istore 6, 2) := by decide +kernel
theorem d_MO_numbered_111 : decode c_MO_numbered 111 = .ok (.aload_n 0, 1) := by decide +kernel
theorem d_MO_numbered_112 : decode c_MO_numbered 112 = .ok (.getfield 272, 3) := by decide +kernel
theorem d_MO_numbered_115 : decode c_MO_numbered 115 = .ok (.ifCond .ne 35, 3) := by decide +kernel
theorem d_MO_numbered_118 : decode c_MO_numbered 118 = .ok (.iload_n 1, 1) := by decide +kernel
theorem d_MO_numbered_119 : decode c_MO_numbered 119 = .ok (.ifCond .lt 31, 3) := by decide +kernel
theorem d_MO_numbered_122 : decode c_MO_numbered 122 = .ok (.aload_n 0, 1) := by decide +kernel
theorem d_MO_numbered_123 : decode c_MO_numbered 123 = .ok (.getfield 13, 3) := by decide +kernel
theorem d_MO_numbered_126 : decode c_MO_numbered 126 = .ok (.iload_n 1, 1) := by decide +kernel
theorem d_MO_numbered_127 : decode c_MO_numbered 127 = .ok (.iaload, 1) := by decide +kernel
theorem d_MO_numbered_128 : decode c_MO_numbered 128 = .ok (.iconst 5, 1) := by decide +kernel
theorem d_MO_numbered_129 : decode c_MO_numbered 129 = .ok (.if_icmp .ne 21, 3) := by decide +kernel
theorem d_MO_numbered_132 : decode c_MO_numbered 132 = .ok (.iload 6, 2) := by decide +kernel
theorem d_MO_numbered_134 : decode c_MO_numbered 134 = .ok (.ifCond .eq 16, 3) := by decide +kernel
theorem d_MO_numbered_137 : decode c_MO_numbered 137 = .ok (.aload_n 0, 1) := by decide +kernel
theorem d_MO_numbered_138 : decode c_MO_numbered 138 = .ok (.iload_n 1, 1) := by decide +kernel
theorem d_MO_numbered_139 : decode c_MO_numbered 139 = .ok (.iload_n 3, 1) := by decide +kernel
theorem d_MO_numbered_140 : decode c_MO_numbered 140 = .ok (.iload_n 2, 1) := by decide +kernel
theorem d_MO_numbered_141 : decode c_MO_numbered 141 = .ok (.iload 5, 2) := by decide +kernel
theorem d_MO_numbered_143 : decode c_MO_numbered 143 = .ok (.iload 4, 2) := by decide +kernel
theorem d_MO_numbered_145 : decode c_MO_numbered 145 = .ok (.iload 6, 2) := by decide +kernel
theorem d_MO_numbered_147 : decode c_MO_numbered 147 = .ok (.invokevirtual 320, 3) := by decide +kernel
theorem d_MO_numbered_150 : decode c_MO_numbered 150 = .ok (.return_, 1) := by decide +kernel
def ws_MO_numbered : List Cond := .code y_MO_numbered c_MO_numbered 8 none :: TBL
theorem d_MO_slice_0 : decode c_MO_slice 0 = .ok (.aload_n 0, 1) := by decide +kernel
theorem d_MO_slice_1 : decode c_MO_slice 1 = .ok (.aload_n 0, 1) := by decide +kernel
theorem d_MO_slice_2 : decode c_MO_slice 2 = .ok (.getfield 262, 3) := by decide +kernel
theorem d_MO_slice_5 : decode c_MO_slice 5 = .ok (.iload_n 1, 1) := by decide +kernel
theorem d_MO_slice_6 : decode c_MO_slice 6 = .ok (.invokevirtual 177, 3) := by decide +kernel
theorem d_MO_slice_9 : decode c_MO_slice 9 = .ok (.istore 7, 2) := by decide +kernel
theorem d_MO_slice_11 : decode c_MO_slice 11 = .ok (.iload 6, 2) := by decide +kernel
theorem d_MO_slice_13 : decode c_MO_slice 13 = .ok (.ifCond .le 7, 3) := by decide +kernel
theorem d_MO_slice_16 : decode c_MO_slice 16 = .ok (.iconst 0, 1) := by decide +kernel
theorem d_MO_slice_17 : decode c_MO_slice 17 = .ok (.goto 4, 3) := by decide +kernel
theorem d_MO_slice_20 : decode c_MO_slice 20 = .ok (.iconst (-1), 1) := by decide +kernel
theorem d_MO_slice_21 : decode c_MO_slice 21 = .ok (.istore 8, 2) := by decide +kernel
theorem d_MO_slice_23 : decode c_MO_slice 23 = .ok (.iload 6, 2) := by decide +kernel
theorem d_MO_slice_25 : decode c_MO_slice 25 = .ok (.ifCond .le 8, 3) := by decide +kernel
theorem d_MO_slice_28 : decode c_MO_slice 28 = .ok (.iload 7, 2) := by decide +kernel
theorem d_MO_slice_30 : decode c_MO_slice 30 = .ok (.goto 7, 3) := by decide +kernel
theorem d_MO_slice_33 : decode c_MO_slice 33 = .ok (.iload 7, 2) := by decide +kernel
theorem d_MO_slice_35 : decode c_MO_slice 35 = .ok (.iconst 1, 1) := by decide +kernel
theorem d_MO_slice_36 : decode c_MO_slice 36 = .ok (.isub, 1) := by decide +kernel
theorem d_MO_slice_37 : decode c_MO_slice 37 = .ok (.istore 9, 2) := by decide +kernel
theorem d_MO_slice_39 : decode c_MO_slice 39 = .ok (.iload_n 2, 1) := by decide +kernel
theorem d_MO_slice_40 : decode c_MO_slice 40 = .ok (.ifCond .eq 19, 3) := by decide +kernel
theorem d_MO_slice_43 : decode c_MO_slice 43 = .ok (.aload_n 0, 1) := by decide +kernel
theorem d_MO_slice_44 : decode c_MO_slice 44 = .ok (.iload_n 1, 1) := by decide +kernel
theorem d_MO_slice_45 : decode c_MO_slice 45 = .ok (.iload_n 3, 1) := by decide +kernel
theorem d_MO_slice_46 : decode c_MO_slice 46 = .ok (.invokevirtual 317, 3) := by decide +kernel
theorem d_MO_slice_49 : decode c_MO_slice 49 = .ok (.iload 8, 2) := by decide +kernel
theorem d_MO_slice_51 : decode c_MO_slice 51 = .ok (.iload 9, 2) := by decide +kernel
theorem d_MO_slice_53 : decode c_MO_slice 53 = .ok (.invokestatic 324, 3) := by decide +kernel
theorem d_MO_slice_56 : decode c_MO_slice 56 = .ok (.goto 16, 3) := by decide +kernel
theorem d_MO_slice_59 : decode c_MO_slice 59 = .ok (.iload 6, 2) := by decide +kernel
theorem d_MO_slice_61 : decode c_MO_slice 61 = .ok (.ifCond .le 7, 3) := by decide +kernel
theorem d_MO_slice_64 : decode c_MO_slice 64 = .ok (.iconst 0, 1) := by decide +kernel
theorem d_MO_slice_65 : decode c_MO_slice 65 = .ok (.goto 7, 3) := by decide +kernel
theorem d_MO_slice_68 : decode c_MO_slice 68 = .ok (.iload 7, 2) := by decide +kernel
theorem d_MO_slice_70 : decode c_MO_slice 70 = .ok (.iconst 1, 1) := by decide +kernel
theorem d_MO_slice_71 : decode c_MO_slice 71 = .ok (.isub, 1) := by decide +kernel
theorem d_MO_slice_72 : decode c_MO_slice 72 = .ok (.istore 10, 2) := by decide +kernel
theorem d_MO_slice_74 : decode c_MO_slice 74 = .ok (.iload 4, 2) := by decide +kernel
theorem d_MO_slice_76 : decode c_MO_slice 76 = .ok (.ifCond .eq 20, 3) := by decide +kernel
theorem d_MO_slice_79 : decode c_MO_slice 79 = .ok (.aload_n 0, 1) := by decide +kernel
theorem d_MO_slice_80 : decode c_MO_slice 80 = .ok (.iload_n 1, 1) := by decide +kernel
theorem d_MO_slice_81 : decode c_MO_slice 81 = .ok (.iload 5, 2) := by decide +kernel
theorem d_MO_slice_83 : decode c_MO_slice 83 = .ok (.invokevirtual 317, 3) := by decide +kernel
theorem d_MO_slice_86 : decode c_MO_slice 86 = .ok (.iload 8, 2) := by decide +kernel
theorem d_MO_slice_88 : decode c_MO_slice 88 = .ok (.iload 9, 2) := by decide +kernel
theorem d_MO_slice_90 : decode c_MO_slice 90 = .ok (.invokestatic 324, 3) := by decide +kernel
theorem d_MO_slice_93 : decode c_MO_slice 93 = .ok (.goto 14, 3) := by decide +kernel
theorem d_MO_slice_96 : decode c_MO_slice 96 = .ok (.iload 6, 2) := by decide +kernel
theorem d_MO_slice_98 : decode c_MO_slice 98 = .ok (.ifCond .le 8, 3) := by decide +kernel
theorem d_MO_slice_101 : decode c_MO_slice 101 = .ok (.iload 7, 2) := by decide +kernel
theorem d_MO_slice_103 : decode c_MO_slice 103 = .ok (.goto 4, 3) := by decide +kernel
theorem d_MO_slice_106 : decode c_MO_slice 106 = .ok (.iconst (-1), 1) := by decide +kernel
theorem d_MO_slice_107 : decode c_MO_slice 107 = .ok (.istore 11, 2) := by decide +kernel
theorem d_MO_slice_109 : decode c_MO_slice 109 = .ok (.iload 10, 2) := by decide +kernel
theorem d_MO_slice_111 : decode c_MO_slice 111 = .ok (.istore 12, 2) := by decide +kernel
theorem d_MO_slice_113 : decode c_MO_slice 113 = .ok (.iload 6, 2) := by decide +kernel
theorem d_MO_slice_115 : decode c_MO_slice 115 = .ok (.ifCond .le 13, 3) := by decide +kernel
theorem d_MO_slice_118 : decode c_MO_slice 118 = .ok (.iload 12, 2) := by decide +kernel
theorem d_MO_slice_120 : decode c_MO_slice 120 = .ok (.iload 11, 2) := by decide +kernel
theorem d_MO_slice_122 : decode c_MO_slice 122 = .ok (.if_icmp .ge 45, 3) := by decide +kernel
theorem d_MO_slice_125 : decode c_MO_slice 125 = .ok (.goto 10, 3) := by decide +kernel
theorem d_MO_slice_128 : decode c_MO_slice 128 = .ok (.iload 12, 2) := by decide +kernel
theorem d_MO_slice_130 : decode c_MO_slice 130 = .ok (.iload 11, 2) := by decide +kernel
theorem d_MO_slice_132 : decode c_MO_slice 132 = .ok (.if_icmp .le 35, 3) := by decide +kernel
theorem d_MO_slice_135 : decode c_MO_slice 135 = .ok (.aload_n 0, 1) := by decide +kernel
theorem d_MO_slice_136 : decode c_MO_slice 136 = .ok (.getfield 275, 3) := by decide +kernel
theorem d_MO_slice_139 : decode c_MO_slice 139 = .ok (.ifCond .ne 28, 3) := by decide +kernel
theorem d_MO_slice_142 : decode c_MO_slice 142 = .ok (.aload_n 0, 1) := by decide +kernel
theorem d_MO_slice_143 : decode c_MO_slice 143 = .ok (.aload_n 0, 1) := by decide +kernel
theorem d_MO_slice_144 : decode c_MO_slice 144 = .ok (.aload_n 0, 1) := by decide +kernel
theorem d_MO_slice_145 : decode c_MO_slice 145 = .ok (.getfield 262, 3) := by decide +kernel
theorem d_MO_slice_148 : decode c_MO_slice 148 = .ok (.iload_n 1, 1) := by decide +kernel
theorem d_MO_slice_149 : decode c_MO_slice 149 = .ok (.iload 12, 2) := by decide +kernel
theorem d_MO_slice_151 : decode c_MO_slice 151 = .ok (.invokevirtual 250, 3) := by decide +kernel
theorem d_MO_slice_154 : decode c_MO_slice 154 = .ok (.invokevirtual 296, 3) := by decide +kernel
theorem d_MO_slice_157 : decode c_MO_slice 157 = .ok (.iload 12, 2) := by decide +kernel
theorem d_MO_slice_159 : decode c_MO_slice 159 = .ok (.iload 6, 2) := by decide +kernel
theorem d_MO_slice_161 : decode c_MO_slice 161 = .ok (.iadd, 1) := by decide +kernel
theorem d_MO_slice_162 : decode c_MO_slice 162 = .ok (.istore 12, 2) := by decide +kernel
theorem d_MO_slice_164 : decode c_MO_slice 164 = .ok (.goto (-51), 3) := by decide +kernel
theorem d_MO_slice_167 : decode c_MO_slice 167 = .ok (.return_, 1) := by decide +kernel
def ws_MO_slice : List Cond := .code y_MO_slice c_MO_slice 13 none :: TBL
theorem d_MO_between_0 : decode c_MO_between 0 = .ok (.iload_n 0, 1) := by decide +kernel
theorem d_MO_between_1 : decode c_MO_between 1 = .ok (.iload_n 1, 1) := by decide +kernel
theorem d_MO_between_2 : decode c_MO_between 2 = .ok (.if_icmp .ge 7, 3) := by decide +kernel
theorem d_MO_between_5 : decode c_MO_between 5 = .ok (.iload_n 1, 1) := by decide +kernel
theorem d_MO_between_6 : decode c_MO_between 6 = .ok (.goto 13, 3) := by decide +kernel
theorem d_MO_between_9 : decode c_MO_between 9 = .ok (.iload_n 0, 1) := by decide +kernel
theorem d_MO_between_10 : decode c_MO_between 10 = .ok (.iload_n 2, 1) := by decide +kernel
theorem d_MO_between_11 : decode c_MO_between 11 = .ok (.if_icmp .le 7, 3) := by decide +kernel
theorem d_MO_between_14 : decode c_MO_between 14 = .ok (.iload_n 2, 1) := by decide +kernel
theorem d_MO_between_15 : decode c_MO_between 15 = .ok (.goto 4, 3) := by decide +kernel
theorem d_MO_between_18 : decode c_MO_between 18 = .ok (.iload_n 0, 1) := by decide +kernel
theorem d_MO_between_19 : decode c_MO_between 19 = .ok (.ireturn, 1) := by decide +kernel
def ws_MO_between : List Cond := .code y_MO_between c_MO_between 3 (some .int) :: TBL
theorem d_MO_length_0 : decode c_MO_length 0 = .ok (.iload_n 1, 1) := by decide +kernel
theorem d_MO_length_1 : decode c_MO_length 1 = .ok (.invokestatic 184, 3) := by decide +kernel
theorem d_MO_length_4 : decode c_MO_length 4 = .ok (.ifCond .eq 12, 3) := by decide +kernel
theorem d_MO_length_7 : decode c_MO_length 7 = .ok (.aload_n 0, 1) := by decide +kernel
theorem d_MO_length_8 : decode c_MO_length 8 = .ok (.getfield 7, 3) := by decide +kernel
theorem d_MO_length_11 : decode c_MO_length 11 = .ok (.iload_n 1, 1) := by decide +kernel
theorem d_MO_length_12 : decode c_MO_length 12 = .ok (.iaload, 1) := by decide +kernel
theorem d_MO_length_13 : decode c_MO_length 13 = .ok (.ifCond .ne 5, 3) := by decide +kernel
theorem d_MO_length_16 : decode c_MO_length 16 = .ok (.iconst (-1), 1) := by decide +kernel
theorem d_MO_length_17 : decode c_MO_length 17 = .ok (.ireturn, 1) := by decide +kernel
theorem d_MO_length_18 : decode c_MO_length 18 = .ok (.aload_n 0, 1) := by decide +kernel
theorem d_MO_length_19 : decode c_MO_length 19 = .ok (.iload_n 1, 1) := by decide +kernel
theorem d_MO_length_20 : decode c_MO_length 20 = .ok (.iload_n 1, 1) := by decide +kernel
theorem d_MO_length_21 : decode c_MO_length 21 = .ok (.invokestatic 73, 3) := by decide +kernel
theorem d_MO_length_24 : decode c_MO_length 24 = .ok (.iconst (-1), 1) := by decide +kernel
theorem d_MO_length_25 : decode c_MO_length 25 = .ok (.invokevirtual 372, 3) := by decide +kernel
theorem d_MO_length_28 : decode c_MO_length 28 = .ok (.aload_n 0, 1) := by decide +kernel
theorem d_MO_length_29 : decode c_MO_length 29 = .ok (.getfield 342, 3) := by decide +kernel
theorem d_MO_length_32 : decode c_MO_length 32 = .ok (.ireturn, 1) := by decide +kernel
def ws_MO_length : List Cond := .code y_MO_length c_MO_length 2 (some .int) :: TBL
theorem d_MO_tell_0 : decode c_MO_tell 0 = .ok (.aload_n 0, 1) := by decide +kernel
theorem d_MO_tell_1 : decode c_MO_tell 1 = .ok (.iconst 0, 1) := by decide +kernel
theorem d_MO_tell_2 : decode c_MO_tell 2 = .ok (.putfield 342, 3) := by decide +kernel
theorem d_MO_tell_5 : decode c_MO_tell 5 = .ok (.aload_n 0, 1) := by decide +kernel
theorem d_MO_tell_6 : decode c_MO_tell 6 = .ok (.iload_n 3, 1) := by decide +kernel
theorem d_MO_tell_7 : decode c_MO_tell 7 = .ok (.putfield 345, 3) := by decide +kernel
theorem d_MO_tell_10 : decode c_MO_tell 10 = .ok (.aload_n 0, 1) := by decide +kernel
theorem d_MO_tell_11 : decode c_MO_tell 11 = .ok (.iconst (-1), 1) := by decide +kernel
theorem d_MO_tell_12 : decode c_MO_tell 12 = .ok (.putfield 348, 3) := by decide +kernel
theorem d_MO_tell_15 : decode c_MO_tell 15 = .ok (.aload_n 0, 1) := by decide +kernel
theorem d_MO_tell_16 : decode c_MO_tell 16 = .ok (.iload_n 1, 1) := by decide +kernel
theorem d_MO_tell_17 : decode c_MO_tell 17 = .ok (.iload_n 2, 1) := by decide +kernel
theorem d_MO_tell_18 : decode c_MO_tell 18 = .ok (.invokevirtual 81, 3) := by decide +kernel
theorem d_MO_tell_21 : decode c_MO_tell 21 = .ok (.istore 4, 2) := by decide +kernel
theorem d_MO_tell_23 : decode c_MO_tell 23 = .ok (.iconst 0, 1) := by decide +kernel
theorem d_MO_tell_24 : decode c_MO_tell 24 = .ok (.istore 5, 2) := by decide +kernel
theorem d_MO_tell_26 : decode c_MO_tell 26 = .ok (.iload_n 2, 1) := by decide +kernel
theorem d_MO_tell_27 : decode c_MO_tell 27 = .ok (.istore 6, 2) := by decide +kernel
theorem d_MO_tell_29 : decode c_MO_tell 29 = .ok (.iload 6, 2) := by decide +kernel
theorem d_MO_tell_31 : decode c_MO_tell 31 = .ok (.iload 4, 2) := by decide +kernel
theorem d_MO_tell_33 : decode c_MO_tell 33 = .ok (.if_icmp .ge 186, 3) := by decide +kernel
theorem d_MO_tell_36 : decode c_MO_tell 36 = .ok (.aload_n 0, 1) := by decide +kernel
theorem d_MO_tell_37 : decode c_MO_tell 37 = .ok (.getfield 16, 3) := by decide +kernel
theorem d_MO_tell_40 : decode c_MO_tell 40 = .ok (.iload 6, 2) := by decide +kernel
theorem d_MO_tell_42 : decode c_MO_tell 42 = .ok (.iaload, 1) := by decide +kernel
theorem d_MO_tell_43 : decode c_MO_tell 43 = .ok (.aload_n 0, 1) := by decide +kernel
theorem d_MO_tell_44 : decode c_MO_tell 44 = .ok (.getfield 16, 3) := by decide +kernel
theorem d_MO_tell_47 : decode c_MO_tell 47 = .ok (.iload_n 2, 1) := by decide +kernel
theorem d_MO_tell_48 : decode c_MO_tell 48 = .ok (.iaload, 1) := by decide +kernel
theorem d_MO_tell_49 : decode c_MO_tell 49 = .ok (.isub, 1) := by decide +kernel
theorem d_MO_tell_50 : decode c_MO_tell 50 = .ok (.istore 7, 2) := by decide +kernel
theorem d_MO_tell_52 : decode c_MO_tell 52 = .ok (.iload 5, 2) := by decide +kernel
theorem d_MO_tell_54 : decode c_MO_tell 54 = .ok (.iload 7, 2) := by decide +kernel
theorem d_MO_tell_56 : decode c_MO_tell 56 = .ok (.if_icmp .le 21, 3) := by decide +kernel
theorem d_MO_tell_59 : decode c_MO_tell 59 = .ok (.iinc 5 (-1), 3) := by decide +kernel
theorem d_MO_tell_62 : decode c_MO_tell 62 = .ok (.aload_n 0, 1) := by decide +kernel
theorem d_MO_tell_63 : decode c_MO_tell 63 = .ok (.aload_n 0, 1) := by decide +kernel
theorem d_MO_tell_64 : decode c_MO_tell 64 = .ok (.getfield 63, 3) := by decide +kernel
theorem d_MO_tell_67 : decode c_MO_tell 67 = .ok (.iload 5, 2) := by decide +kernel
theorem d_MO_tell_69 : decode c_MO_tell 69 = .ok (.iaload, 1) := by decide +kernel
theorem d_MO_tell_70 : decode c_MO_tell 70 = .ok (.i2c, 1) := by decide +kernel
theorem d_MO_tell_71 : decode c_MO_tell 71 = .ok (.invokevirtual 351, 3) := by decide +kernel
theorem d_MO_tell_74 : decode c_MO_tell 74 = .ok (.goto (-22), 3) := by decide +kernel
theorem d_MO_tell_77 : decode c_MO_tell 77 = .ok (.iload 7, 2) := by decide +kernel
theorem d_MO_tell_79 : decode c_MO_tell 79 = .ok (.ifCond .le 21, 3) := by decide +kernel
theorem d_MO_tell_82 : decode c_MO_tell 82 = .ok (.aload_n 0, 1) := by decide +kernel
theorem d_MO_tell_83 : decode c_MO_tell 83 = .ok (.getfield 60, 3) := by decide +kernel
theorem d_MO_tell_86 : decode c_MO_tell 86 = .ok (.iload 7, 2) := by decide +kernel
theorem d_MO_tell_88 : decode c_MO_tell 88 = .ok (.iconst 1, 1) := by decide +kernel
theorem d_MO_tell_89 : decode c_MO_tell 89 = .ok (.isub, 1) := by decide +kernel
theorem d_MO_tell_90 : decode c_MO_tell 90 = .ok (.iaload, 1) := by decide +kernel
theorem d_MO_tell_91 : decode c_MO_tell 91 = .ok (.ifCond .le 9, 3) := by decide +kernel
theorem d_MO_tell_94 : decode c_MO_tell 94 = .ok (.aload_n 0, 1) := by decide +kernel
theorem d_MO_tell_95 : decode c_MO_tell 95 = .ok (.bipush 44, 2) := by decide +kernel
theorem d_MO_tell_97 : decode c_MO_tell 97 = .ok (.invokevirtual 351, 3) := by decide +kernel
theorem d_MO_tell_100 : decode c_MO_tell 100 = .ok (.iload 7, 2) := by decide +kernel
theorem d_MO_tell_102 : decode c_MO_tell 102 = .ok (.ifCond .le 16, 3) := by decide +kernel
theorem d_MO_tell_105 : decode c_MO_tell 105 = .ok (.aload_n 0, 1) := by decide +kernel
theorem d_MO_tell_106 : decode c_MO_tell 106 = .ok (.getfield 60, 3) := by decide +kernel
theorem d_MO_tell_109 : decode c_MO_tell 109 = .ok (.iload 7, 2) := by decide +kernel
theorem d_MO_tell_111 : decode c_MO_tell 111 = .ok (.iconst 1, 1) := by decide +kernel
theorem d_MO_tell_112 : decode c_MO_tell 112 = .ok (.isub, 1) := by decide +kernel
theorem d_MO_tell_113 : decode c_MO_tell 113 = .ok (.dup2, 1) := by decide +kernel
theorem d_MO_tell_114 : decode c_MO_tell 114 = .ok (.iaload, 1) := by decide +kernel
theorem d_MO_tell_115 : decode c_MO_tell 115 = .ok (.iconst 1, 1) := by decide +kernel
theorem d_MO_tell_116 : decode c_MO_tell 116 = .ok (.iadd, 1) := by decide +kernel
theorem d_MO_tell_117 : decode c_MO_tell 117 = .ok (.iastore, 1) := by decide +kernel
theorem d_MO_tell_118 : decode c_MO_tell 118 = .ok (.iload 7, 2) := by decide +kernel
theorem d_MO_tell_120 : decode c_MO_tell 120 = .ok (.ifCond .le 37, 3) := by decide +kernel
theorem d_MO_tell_123 : decode c_MO_tell 123 = .ok (.aload_n 0, 1) := by decide +kernel
theorem d_MO_tell_124 : decode c_MO_tell 124 = .ok (.getfield 28, 3) := by decide +kernel
theorem d_MO_tell_127 : decode c_MO_tell 127 = .ok (.iload 6, 2) := by decide +kernel
theorem d_MO_tell_129 : decode c_MO_tell 129 = .ok (.iaload, 1) := by decide +kernel
theorem d_MO_tell_130 : decode c_MO_tell 130 = .ok (.ifCond .lt 27, 3) := by decide +kernel
theorem d_MO_tell_133 : decode c_MO_tell 133 = .ok (.aload_n 0, 1) := by decide +kernel
theorem d_MO_tell_134 : decode c_MO_tell 134 = .ok (.aload_n 0, 1) := by decide +kernel
theorem d_MO_tell_135 : decode c_MO_tell 135 = .ok (.getfield 25, 3) := by decide +kernel
theorem d_MO_tell_138 : decode c_MO_tell 138 = .ok (.iload 6, 2) := by decide +kernel
theorem d_MO_tell_140 : decode c_MO_tell 140 = .ok (.iaload, 1) := by decide +kernel
theorem d_MO_tell_141 : decode c_MO_tell 141 = .ok (.aload_n 0, 1) := by decide +kernel
theorem d_MO_tell_142 : decode c_MO_tell 142 = .ok (.getfield 28, 3) := by decide +kernel
theorem d_MO_tell_145 : decode c_MO_tell 145 = .ok (.iload 6, 2) := by decide +kernel
theorem d_MO_tell_147 : decode c_MO_tell 147 = .ok (.iaload, 1) := by decide +kernel
theorem d_MO_tell_148 : decode c_MO_tell 148 = .ok (.invokevirtual 359, 3) := by decide +kernel
theorem d_MO_tell_151 : decode c_MO_tell 151 = .ok (.aload_n 0, 1) := by decide +kernel
theorem d_MO_tell_152 : decode c_MO_tell 152 = .ok (.bipush 58, 2) := by decide +kernel
theorem d_MO_tell_154 : decode c_MO_tell 154 = .ok (.invokevirtual 351, 3) := by decide +kernel
theorem d_MO_tell_157 : decode c_MO_tell 157 = .ok (.aload_n 0, 1) := by decide +kernel
theorem d_MO_tell_158 : decode c_MO_tell 158 = .ok (.iload 6, 2) := by decide +kernel
theorem d_MO_tell_160 : decode c_MO_tell 160 = .ok (.invokevirtual 362, 3) := by decide +kernel
theorem d_MO_tell_163 : decode c_MO_tell 163 = .ok (.aload_n 0, 1) := by decide +kernel
theorem d_MO_tell_164 : decode c_MO_tell 164 = .ok (.getfield 13, 3) := by decide +kernel
theorem d_MO_tell_167 : decode c_MO_tell 167 = .ok (.iload 6, 2) := by decide +kernel
theorem d_MO_tell_169 : decode c_MO_tell 169 = .ok (.iaload, 1) := by decide +kernel
theorem d_MO_tell_170 : decode c_MO_tell 170 = .ok (.iconst 5, 1) := by decide +kernel
theorem d_MO_tell_171 : decode c_MO_tell 171 = .ok (.if_icmp .lt 42, 3) := by decide +kernel
theorem d_MO_tell_174 : decode c_MO_tell 174 = .ok (.aload_n 0, 1) := by decide +kernel
theorem d_MO_tell_175 : decode c_MO_tell 175 = .ok (.getfield 60, 3) := by decide +kernel
theorem d_MO_tell_178 : decode c_MO_tell 178 = .ok (.iload 7, 2) := by decide +kernel
theorem d_MO_tell_180 : decode c_MO_tell 180 = .ok (.iconst 0, 1) := by decide +kernel
theorem d_MO_tell_181 : decode c_MO_tell 181 = .ok (.iastore, 1) := by decide +kernel
theorem d_MO_tell_182 : decode c_MO_tell 182 = .ok (.aload_n 0, 1) := by decide +kernel
theorem d_MO_tell_183 : decode c_MO_tell 183 = .ok (.getfield 63, 3) := by decide +kernel
theorem d_MO_tell_186 : decode c_MO_tell 186 = .ok (.iload 7, 2) := by decide +kernel
theorem d_MO_tell_188 : decode c_MO_tell 188 = .ok (.aload_n 0, 1) := by decide +kernel
theorem d_MO_tell_189 : decode c_MO_tell 189 = .ok (.getfield 13, 3) := by decide +kernel
theorem d_MO_tell_192 : decode c_MO_tell 192 = .ok (.iload 6, 2) := by decide +kernel
theorem d_MO_tell_194 : decode c_MO_tell 194 = .ok (.iaload, 1) := by decide +kernel
theorem d_MO_tell_195 : decode c_MO_tell 195 = .ok (.iconst 5, 1) := by decide +kernel
theorem d_MO_tell_196 : decode c_MO_tell 196 = .ok (.if_icmp .ne 8, 3) := by decide +kernel
theorem d_MO_tell_199 : decode c_MO_tell 199 = .ok (.bipush 93, 2) := by decide +kernel
theorem d_MO_tell_201 : decode c_MO_tell 201 = .ok (.goto 5, 3) := by decide +kernel
theorem d_MO_tell_204 : decode c_MO_tell 204 = .ok (.bipush 125, 2) := by decide +kernel
theorem d_MO_tell_206 : decode c_MO_tell 206 = .ok (.iastore, 1) := by decide +kernel
theorem d_MO_tell_207 : decode c_MO_tell 207 = .ok (.iload 7, 2) := by decide +kernel
theorem d_MO_tell_209 : decode c_MO_tell 209 = .ok (.iconst 1, 1) := by decide +kernel
theorem d_MO_tell_210 : decode c_MO_tell 210 = .ok (.iadd, 1) := by decide +kernel
theorem d_MO_tell_211 : decode c_MO_tell 211 = .ok (.istore 5, 2) := by decide +kernel
theorem d_MO_tell_213 : decode c_MO_tell 213 = .ok (.iinc 6 1, 3) := by decide +kernel
theorem d_MO_tell_216 : decode c_MO_tell 216 = .ok (.goto (-187), 3) := by decide +kernel
theorem d_MO_tell_219 : decode c_MO_tell 219 = .ok (.iload 5, 2) := by decide +kernel
theorem d_MO_tell_221 : decode c_MO_tell 221 = .ok (.ifCond .le 21, 3) := by decide +kernel
theorem d_MO_tell_224 : decode c_MO_tell 224 = .ok (.iinc 5 (-1), 3) := by decide +kernel
theorem d_MO_tell_227 : decode c_MO_tell 227 = .ok (.aload_n 0, 1) := by decide +kernel
theorem d_MO_tell_228 : decode c_MO_tell 228 = .ok (.aload_n 0, 1) := by decide +kernel
theorem d_MO_tell_229 : decode c_MO_tell 229 = .ok (.getfield 63, 3) := by decide +kernel
theorem d_MO_tell_232 : decode c_MO_tell 232 = .ok (.iload 5, 2) := by decide +kernel
theorem d_MO_tell_234 : decode c_MO_tell 234 = .ok (.iaload, 1) := by decide +kernel
theorem d_MO_tell_235 : decode c_MO_tell 235 = .ok (.i2c, 1) := by decide +kernel
theorem d_MO_tell_236 : decode c_MO_tell 236 = .ok (.invokevirtual 351, 3) := by decide +kernel
theorem d_MO_tell_239 : decode c_MO_tell 239 = .ok (.goto (-20), 3) := by decide +kernel
theorem d_MO_tell_242 : decode c_MO_tell 242 = .ok (.return_, 1) := by decide +kernel
def ws_MO_tell : List Cond := .code y_MO_tell c_MO_tell 8 none :: TBL
theorem d_MO_emit_0 : decode c_MO_emit 0 = .ok (.aload_n 0, 1) := by decide +kernel
theorem d_MO_emit_1 : decode c_MO_emit 1 = .ok (.aload_n 0, 1) := by decide +kernel
theorem d_MO_emit_2 : decode c_MO_emit 2 = .ok (.getfield 342, 3) := by decide +kernel
theorem d_MO_emit_5 : decode c_MO_emit 5 = .ok (.aload_n 0, 1) := by decide +kernel
theorem d_MO_emit_6 : decode c_MO_emit 6 = .ok (.getfield 345, 3) := by decide +kernel
theorem d_MO_emit_9 : decode c_MO_emit 9 = .ok (.if_icmp .ne 7, 3) := by decide +kernel
theorem d_MO_emit_12 : decode c_MO_emit 12 = .ok (.iload_n 1, 1) := by decide +kernel
theorem d_MO_emit_13 : decode c_MO_emit 13 = .ok (.goto 7, 3) := by decide +kernel
theorem d_MO_emit_16 : decode c_MO_emit 16 = .ok (.aload_n 0, 1) := by decide +kernel
theorem d_MO_emit_17 : decode c_MO_emit 17 = .ok (.getfield 348, 3) := by decide +kernel
theorem d_MO_emit_20 : decode c_MO_emit 20 = .ok (.putfield 348, 3) := by decide +kernel
theorem d_MO_emit_23 : decode c_MO_emit 23 = .ok (.aload_n 0, 1) := by decide +kernel
theorem d_MO_emit_24 : decode c_MO_emit 24 = .ok (.dup, 1) := by decide +kernel
theorem d_MO_emit_25 : decode c_MO_emit 25 = .ok (.getfield 342, 3) := by decide +kernel
theorem d_MO_emit_28 : decode c_MO_emit 28 = .ok (.iconst 1, 1) := by decide +kernel
theorem d_MO_emit_29 : decode c_MO_emit 29 = .ok (.iadd, 1) := by decide +kernel
theorem d_MO_emit_30 : decode c_MO_emit 30 = .ok (.putfield 342, 3) := by decide +kernel
theorem d_MO_emit_33 : decode c_MO_emit 33 = .ok (.return_, 1) := by decide +kernel
def ws_MO_emit : List Cond := .code y_MO_emit c_MO_emit 2 none :: TBL
theorem d_MO_emitString_0 : decode c_MO_emitString 0 = .ok (.aload_n 0, 1) := by decide +kernel
theorem d_MO_emitString_1 : decode c_MO_emitString 1 = .ok (.bipush 34, 2) := by decide +kernel
theorem d_MO_emitString_3 : decode c_MO_emitString 3 = .ok (.invokevirtual 351, 3) := by decide +kernel
theorem d_MO_emitString_6 : decode c_MO_emitString 6 = .ok (.iconst 0, 1) := by decide +kernel
theorem d_MO_emitString_7 : decode c_MO_emitString 7 = .ok (.istore_n 3, 1) := by decide +kernel
theorem d_MO_emitString_8 : decode c_MO_emitString 8 = .ok (.iload_n 3, 1) := by decide +kernel
theorem d_MO_emitString_9 : decode c_MO_emitString 9 = .ok (.iload_n 2, 1) := by decide +kernel
theorem d_MO_emitString_10 : decode c_MO_emitString 10 = .ok (.if_icmp .ge 45, 3) := by decide +kernel
theorem d_MO_emitString_13 : decode c_MO_emitString 13 = .ok (.aload_n 0, 1) := by decide +kernel
theorem d_MO_emitString_14 : decode c_MO_emitString 14 = .ok (.getfield 35, 3) := by decide +kernel
theorem d_MO_emitString_17 : decode c_MO_emitString 17 = .ok (.iload_n 1, 1) := by decide +kernel
theorem d_MO_emitString_18 : decode c_MO_emitString 18 = .ok (.iload_n 3, 1) := by decide +kernel
theorem d_MO_emitString_19 : decode c_MO_emitString 19 = .ok (.iadd, 1) := by decide +kernel
theorem d_MO_emitString_20 : decode c_MO_emitString 20 = .ok (.caload, 1) := by decide +kernel
theorem d_MO_emitString_21 : decode c_MO_emitString 21 = .ok (.istore 4, 2) := by decide +kernel
theorem d_MO_emitString_23 : decode c_MO_emitString 23 = .ok (.iload 4, 2) := by decide +kernel
theorem d_MO_emitString_25 : decode c_MO_emitString 25 = .ok (.bipush 34, 2) := by decide +kernel
theorem d_MO_emitString_27 : decode c_MO_emitString 27 = .ok (.if_icmp .eq 10, 3) := by decide +kernel
theorem d_MO_emitString_30 : decode c_MO_emitString 30 = .ok (.iload 4, 2) := by decide +kernel
theorem d_MO_emitString_32 : decode c_MO_emitString 32 = .ok (.bipush 92, 2) := by decide +kernel
theorem d_MO_emitString_34 : decode c_MO_emitString 34 = .ok (.if_icmp .ne 9, 3) := by decide +kernel
theorem d_MO_emitString_37 : decode c_MO_emitString 37 = .ok (.aload_n 0, 1) := by decide +kernel
theorem d_MO_emitString_38 : decode c_MO_emitString 38 = .ok (.bipush 92, 2) := by decide +kernel
theorem d_MO_emitString_40 : decode c_MO_emitString 40 = .ok (.invokevirtual 351, 3) := by decide +kernel
theorem d_MO_emitString_43 : decode c_MO_emitString 43 = .ok (.aload_n 0, 1) := by decide +kernel
theorem d_MO_emitString_44 : decode c_MO_emitString 44 = .ok (.iload 4, 2) := by decide +kernel
theorem d_MO_emitString_46 : decode c_MO_emitString 46 = .ok (.invokevirtual 351, 3) := by decide +kernel
theorem d_MO_emitString_49 : decode c_MO_emitString 49 = .ok (.iinc 3 1, 3) := by decide +kernel
theorem d_MO_emitString_52 : decode c_MO_emitString 52 = .ok (.goto (-44), 3) := by decide +kernel
theorem d_MO_emitString_55 : decode c_MO_emitString 55 = .ok (.aload_n 0, 1) := by decide +kernel
theorem d_MO_emitString_56 : decode c_MO_emitString 56 = .ok (.bipush 34, 2) := by decide +kernel
theorem d_MO_emitString_58 : decode c_MO_emitString 58 = .ok (.invokevirtual 351, 3) := by decide +kernel
theorem d_MO_emitString_61 : decode c_MO_emitString 61 = .ok (.return_, 1) := by decide +kernel
def ws_MO_emitString : List Cond := .code y_MO_emitString c_MO_emitString 5 none :: TBL
theorem d_MO_tellOne_0 : decode c_MO_tellOne 0 = .ok (.aload_n 0, 1) := by decide +kernel
theorem d_MO_tellOne_1 : decode c_MO_tellOne 1 = .ok (.getfield 13, 3) := by decide +kernel
theorem d_MO_tellOne_4 : decode c_MO_tellOne 4 = .ok (.iload_n 1, 1) := by decide +kernel
theorem d_MO_tellOne_5 : decode c_MO_tellOne 5 = .ok (.iaload, 1) := by decide +kernel
theorem d_MO_tellOne_6 : decode c_MO_tellOne 6 = .ok (.istore_n 2, 1) := by decide +kernel
theorem d_MO_tellOne_7 : decode c_MO_tellOne 7 = .ok (.iload_n 2, 1) := by decide +kernel
theorem d_MO_tellOne_8 : decode c_MO_tellOne 8 = .ok (.ifCond .ne 19, 3) := by decide +kernel
theorem d_MO_tellOne_11 : decode c_MO_tellOne 11 = .ok (.aload_n 0, 1) := by decide +kernel
theorem d_MO_tellOne_12 : decode c_MO_tellOne 12 = .ok (.bipush 110, 2) := by decide +kernel
theorem d_MO_tellOne_14 : decode c_MO_tellOne 14 = .ok (.bipush 117, 2) := by decide +kernel
theorem d_MO_tellOne_16 : decode c_MO_tellOne 16 = .ok (.bipush 108, 2) := by decide +kernel
theorem d_MO_tellOne_18 : decode c_MO_tellOne 18 = .ok (.bipush 108, 2) := by decide +kernel
theorem d_MO_tellOne_20 : decode c_MO_tellOne 20 = .ok (.iconst 0, 1) := by decide +kernel
theorem d_MO_tellOne_21 : decode c_MO_tellOne 21 = .ok (.invokevirtual 365, 3) := by decide +kernel
theorem d_MO_tellOne_24 : decode c_MO_tellOne 24 = .ok (.goto 104, 3) := by decide +kernel
theorem d_MO_tellOne_27 : decode c_MO_tellOne 27 = .ok (.iload_n 2, 1) := by decide +kernel
theorem d_MO_tellOne_28 : decode c_MO_tellOne 28 = .ok (.iconst 1, 1) := by decide +kernel
theorem d_MO_tellOne_29 : decode c_MO_tellOne 29 = .ok (.if_icmp .ne 19, 3) := by decide +kernel
theorem d_MO_tellOne_32 : decode c_MO_tellOne 32 = .ok (.aload_n 0, 1) := by decide +kernel
theorem d_MO_tellOne_33 : decode c_MO_tellOne 33 = .ok (.bipush 116, 2) := by decide +kernel
theorem d_MO_tellOne_35 : decode c_MO_tellOne 35 = .ok (.bipush 114, 2) := by decide +kernel
theorem d_MO_tellOne_37 : decode c_MO_tellOne 37 = .ok (.bipush 117, 2) := by decide +kernel
theorem d_MO_tellOne_39 : decode c_MO_tellOne 39 = .ok (.bipush 101, 2) := by decide +kernel
theorem d_MO_tellOne_41 : decode c_MO_tellOne 41 = .ok (.iconst 0, 1) := by decide +kernel
theorem d_MO_tellOne_42 : decode c_MO_tellOne 42 = .ok (.invokevirtual 365, 3) := by decide +kernel
theorem d_MO_tellOne_45 : decode c_MO_tellOne 45 = .ok (.goto 83, 3) := by decide +kernel
theorem d_MO_tellOne_48 : decode c_MO_tellOne 48 = .ok (.iload_n 2, 1) := by decide +kernel
theorem d_MO_tellOne_49 : decode c_MO_tellOne 49 = .ok (.iconst 2, 1) := by decide +kernel
theorem d_MO_tellOne_50 : decode c_MO_tellOne 50 = .ok (.if_icmp .ne 20, 3) := by decide +kernel
theorem d_MO_tellOne_53 : decode c_MO_tellOne 53 = .ok (.aload_n 0, 1) := by decide +kernel
theorem d_MO_tellOne_54 : decode c_MO_tellOne 54 = .ok (.bipush 102, 2) := by decide +kernel
theorem d_MO_tellOne_56 : decode c_MO_tellOne 56 = .ok (.bipush 97, 2) := by decide +kernel
theorem d_MO_tellOne_58 : decode c_MO_tellOne 58 = .ok (.bipush 108, 2) := by decide +kernel
theorem d_MO_tellOne_60 : decode c_MO_tellOne 60 = .ok (.bipush 115, 2) := by decide +kernel
theorem d_MO_tellOne_62 : decode c_MO_tellOne 62 = .ok (.bipush 101, 2) := by decide +kernel
theorem d_MO_tellOne_64 : decode c_MO_tellOne 64 = .ok (.invokevirtual 365, 3) := by decide +kernel
theorem d_MO_tellOne_67 : decode c_MO_tellOne 67 = .ok (.goto 61, 3) := by decide +kernel
theorem d_MO_tellOne_70 : decode c_MO_tellOne 70 = .ok (.iload_n 2, 1) := by decide +kernel
theorem d_MO_tellOne_71 : decode c_MO_tellOne 71 = .ok (.iconst 3, 1) := by decide +kernel
theorem d_MO_tellOne_72 : decode c_MO_tellOne 72 = .ok (.if_icmp .ne 16, 3) := by decide +kernel
theorem d_MO_tellOne_75 : decode c_MO_tellOne 75 = .ok (.aload_n 0, 1) := by decide +kernel
theorem d_MO_tellOne_76 : decode c_MO_tellOne 76 = .ok (.aload_n 0, 1) := by decide +kernel
theorem d_MO_tellOne_77 : decode c_MO_tellOne 77 = .ok (.getfield 31, 3) := by decide +kernel
theorem d_MO_tellOne_80 : decode c_MO_tellOne 80 = .ok (.iload_n 1, 1) := by decide +kernel
theorem d_MO_tellOne_81 : decode c_MO_tellOne 81 = .ok (.laload, 1) := by decide +kernel
theorem d_MO_tellOne_82 : decode c_MO_tellOne 82 = .ok (.invokevirtual 368, 3) := by decide +kernel
theorem d_MO_tellOne_85 : decode c_MO_tellOne 85 = .ok (.goto 43, 3) := by decide +kernel
theorem d_MO_tellOne_88 : decode c_MO_tellOne 88 = .ok (.iload_n 2, 1) := by decide +kernel
theorem d_MO_tellOne_89 : decode c_MO_tellOne 89 = .ok (.iconst 4, 1) := by decide +kernel
theorem d_MO_tellOne_90 : decode c_MO_tellOne 90 = .ok (.if_icmp .ne 22, 3) := by decide +kernel
theorem d_MO_tellOne_93 : decode c_MO_tellOne 93 = .ok (.aload_n 0, 1) := by decide +kernel
theorem d_MO_tellOne_94 : decode c_MO_tellOne 94 = .ok (.aload_n 0, 1) := by decide +kernel
theorem d_MO_tellOne_95 : decode c_MO_tellOne 95 = .ok (.getfield 19, 3) := by decide +kernel
theorem d_MO_tellOne_98 : decode c_MO_tellOne 98 = .ok (.iload_n 1, 1) := by decide +kernel
theorem d_MO_tellOne_99 : decode c_MO_tellOne 99 = .ok (.iaload, 1) := by decide +kernel
theorem d_MO_tellOne_100 : decode c_MO_tellOne 100 = .ok (.aload_n 0, 1) := by decide +kernel
theorem d_MO_tellOne_101 : decode c_MO_tellOne 101 = .ok (.getfield 22, 3) := by decide +kernel
theorem d_MO_tellOne_104 : decode c_MO_tellOne 104 = .ok (.iload_n 1, 1) := by decide +kernel
theorem d_MO_tellOne_105 : decode c_MO_tellOne 105 = .ok (.iaload, 1) := by decide +kernel
theorem d_MO_tellOne_106 : decode c_MO_tellOne 106 = .ok (.invokevirtual 359, 3) := by decide +kernel
theorem d_MO_tellOne_109 : decode c_MO_tellOne 109 = .ok (.goto 19, 3) := by decide +kernel
theorem d_MO_tellOne_112 : decode c_MO_tellOne 112 = .ok (.aload_n 0, 1) := by decide +kernel
theorem d_MO_tellOne_113 : decode c_MO_tellOne 113 = .ok (.iload_n 2, 1) := by decide +kernel
theorem d_MO_tellOne_114 : decode c_MO_tellOne 114 = .ok (.iconst 5, 1) := by decide +kernel
theorem d_MO_tellOne_115 : decode c_MO_tellOne 115 = .ok (.if_icmp .ne 8, 3) := by decide +kernel
theorem d_MO_tellOne_118 : decode c_MO_tellOne 118 = .ok (.bipush 91, 2) := by decide +kernel
theorem d_MO_tellOne_120 : decode c_MO_tellOne 120 = .ok (.goto 5, 3) := by decide +kernel
theorem d_MO_tellOne_123 : decode c_MO_tellOne 123 = .ok (.bipush 123, 2) := by decide +kernel
theorem d_MO_tellOne_125 : decode c_MO_tellOne 125 = .ok (.invokevirtual 351, 3) := by decide +kernel
theorem d_MO_tellOne_128 : decode c_MO_tellOne 128 = .ok (.return_, 1) := by decide +kernel
def ws_MO_tellOne : List Cond := .code y_MO_tellOne c_MO_tellOne 3 none :: TBL
theorem d_MO_emitWord_0 : decode c_MO_emitWord 0 = .ok (.aload_n 0, 1) := by decide +kernel
theorem d_MO_emitWord_1 : decode c_MO_emitWord 1 = .ok (.iload_n 1, 1) := by decide +kernel
theorem d_MO_emitWord_2 : decode c_MO_emitWord 2 = .ok (.invokevirtual 351, 3) := by decide +kernel
theorem d_MO_emitWord_5 : decode c_MO_emitWord 5 = .ok (.aload_n 0, 1) := by decide +kernel
theorem d_MO_emitWord_6 : decode c_MO_emitWord 6 = .ok (.iload_n 2, 1) := by decide +kernel
theorem d_MO_emitWord_7 : decode c_MO_emitWord 7 = .ok (.invokevirtual 351, 3) := by decide +kernel
theorem d_MO_emitWord_10 : decode c_MO_emitWord 10 = .ok (.aload_n 0, 1) := by decide +kernel
theorem d_MO_emitWord_11 : decode c_MO_emitWord 11 = .ok (.iload_n 3, 1) := by decide +kernel
theorem d_MO_emitWord_12 : decode c_MO_emitWord 12 = .ok (.invokevirtual 351, 3) := by decide +kernel
theorem d_MO_emitWord_15 : decode c_MO_emitWord 15 = .ok (.aload_n 0, 1) := by decide +kernel
theorem d_MO_emitWord_16 : decode c_MO_emitWord 16 = .ok (.iload 4, 2) := by decide +kernel
theorem d_MO_emitWord_18 : decode c_MO_emitWord 18 = .ok (.invokevirtual 351, 3) := by decide +kernel
theorem d_MO_emitWord_21 : decode c_MO_emitWord 21 = .ok (.iload 5, 2) := by decide +kernel
theorem d_MO_emitWord_23 : decode c_MO_emitWord 23 = .ok (.ifCond .eq 9, 3) := by decide +kernel
theorem d_MO_emitWord_26 : decode c_MO_emitWord 26 = .ok (.aload_n 0, 1) := by decide +kernel
theorem d_MO_emitWord_27 : decode c_MO_emitWord 27 = .ok (.iload 5, 2) := by decide +kernel
theorem d_MO_emitWord_29 : decode c_MO_emitWord 29 = .ok (.invokevirtual 351, 3) := by decide +kernel
theorem d_MO_emitWord_32 : decode c_MO_emitWord 32 = .ok (.return_, 1) := by decide +kernel
def ws_MO_emitWord : List Cond := .code y_MO_emitWord c_MO_emitWord 6 none :: TBL
theorem d_MO_emitNumber_0 : decode c_MO_emitNumber 0 = .ok (.lload_n 1, 1) := by decide +kernel
theorem d_MO_emitNumber_1 : decode c_MO_emitNumber 1 = .ok (.lconst 0, 1) := by decide +kernel
theorem d_MO_emitNumber_2 : decode c_MO_emitNumber 2 = .ok (.lcmp, 1) := by decide +kernel
theorem d_MO_emitNumber_3 : decode c_MO_emitNumber 3 = .ok (.ifCond .ge 9, 3) := by decide +kernel
theorem d_MO_emitNumber_6 : decode c_MO_emitNumber 6 = .ok (.aload_n 0, 1) := by decide +kernel
theorem d_MO_emitNumber_7 : decode c_MO_emitNumber 7 = .ok (.bipush 45, 2) := by decide +kernel
theorem d_MO_emitNumber_9 : decode c_MO_emitNumber 9 = .ok (.invokevirtual 351, 3) := by decide +kernel
theorem d_MO_emitNumber_12 : decode c_MO_emitNumber 12 = .ok (.lload_n 1, 1) := by decide +kernel
theorem d_MO_emitNumber_13 : decode c_MO_emitNumber 13 = .ok (.lconst 0, 1) := by decide +kernel
theorem d_MO_emitNumber_14 : decode c_MO_emitNumber 14 = .ok (.lcmp, 1) := by decide +kernel
theorem d_MO_emitNumber_15 : decode c_MO_emitNumber 15 = .ok (.ifCond .ge 7, 3) := by decide +kernel
theorem d_MO_emitNumber_18 : decode c_MO_emitNumber 18 = .ok (.lload_n 1, 1) := by decide +kernel
theorem d_MO_emitNumber_19 : decode c_MO_emitNumber 19 = .ok (.goto 5, 3) := by decide +kernel
theorem d_MO_emitNumber_22 : decode c_MO_emitNumber 22 = .ok (.lload_n 1, 1) := by decide +kernel
theorem d_MO_emitNumber_23 : decode c_MO_emitNumber 23 = .ok (.lneg, 1) := by decide +kernel
theorem d_MO_emitNumber_24 : decode c_MO_emitNumber 24 = .ok (.lstore_n 3, 1) := by decide +kernel
theorem d_MO_emitNumber_25 : decode c_MO_emitNumber 25 = .ok (.lconst 1, 1) := by decide +kernel
theorem d_MO_emitNumber_26 : decode c_MO_emitNumber 26 = .ok (.lstore 5, 2) := by decide +kernel
theorem d_MO_emitNumber_28 : decode c_MO_emitNumber 28 = .ok (.lload_n 3, 1) := by decide +kernel
theorem d_MO_emitNumber_29 : decode c_MO_emitNumber 29 = .ok (.lload 5, 2) := by decide +kernel
theorem d_MO_emitNumber_31 : decode c_MO_emitNumber 31 = .ok (.ldiv, 1) := by decide +kernel
theorem d_MO_emitNumber_32 : decode c_MO_emitNumber 32 = .ok (.ldc2_w 355, 3) := by decide +kernel
theorem d_MO_emitNumber_35 : decode c_MO_emitNumber 35 = .ok (.lcmp, 1) := by decide +kernel
theorem d_MO_emitNumber_36 : decode c_MO_emitNumber 36 = .ok (.ifCond .gt 14, 3) := by decide +kernel
theorem d_MO_emitNumber_39 : decode c_MO_emitNumber 39 = .ok (.ldc2_w 115, 3) := by decide +kernel
theorem d_MO_emitNumber_42 : decode c_MO_emitNumber 42 = .ok (.lload 5, 2) := by decide +kernel
theorem d_MO_emitNumber_44 : decode c_MO_emitNumber 44 = .ok (.lmul, 1) := by decide +kernel
theorem d_MO_emitNumber_45 : decode c_MO_emitNumber 45 = .ok (.lstore 5, 2) := by decide +kernel
theorem d_MO_emitNumber_47 : decode c_MO_emitNumber 47 = .ok (.goto (-19), 3) := by decide +kernel
theorem d_MO_emitNumber_50 : decode c_MO_emitNumber 50 = .ok (.lload 5, 2) := by decide +kernel
theorem d_MO_emitNumber_52 : decode c_MO_emitNumber 52 = .ok (.lconst 0, 1) := by decide +kernel
theorem d_MO_emitNumber_53 : decode c_MO_emitNumber 53 = .ok (.lcmp, 1) := by decide +kernel
theorem d_MO_emitNumber_54 : decode c_MO_emitNumber 54 = .ok (.ifCond .le 32, 3) := by decide +kernel
theorem d_MO_emitNumber_57 : decode c_MO_emitNumber 57 = .ok (.aload_n 0, 1) := by decide +kernel
theorem d_MO_emitNumber_58 : decode c_MO_emitNumber 58 = .ok (.ldc2_w 357, 3) := by decide +kernel
theorem d_MO_emitNumber_61 : decode c_MO_emitNumber 61 = .ok (.lload_n 3, 1) := by decide +kernel
theorem d_MO_emitNumber_62 : decode c_MO_emitNumber 62 = .ok (.lload 5, 2) := by decide +kernel
theorem d_MO_emitNumber_64 : decode c_MO_emitNumber 64 = .ok (.ldiv, 1) := by decide +kernel
theorem d_MO_emitNumber_65 : decode c_MO_emitNumber 65 = .ok (.ldc2_w 115, 3) := by decide +kernel
theorem d_MO_emitNumber_68 : decode c_MO_emitNumber 68 = .ok (.lrem, 1) := by decide +kernel
theorem d_MO_emitNumber_69 : decode c_MO_emitNumber 69 = .ok (.lsub, 1) := by decide +kernel
theorem d_MO_emitNumber_70 : decode c_MO_emitNumber 70 = .ok (.l2i, 1) := by decide +kernel
theorem d_MO_emitNumber_71 : decode c_MO_emitNumber 71 = .ok (.i2c, 1) := by decide +kernel
theorem d_MO_emitNumber_72 : decode c_MO_emitNumber 72 = .ok (.invokevirtual 351, 3) := by decide +kernel
theorem d_MO_emitNumber_75 : decode c_MO_emitNumber 75 = .ok (.lload 5, 2) := by decide +kernel
theorem d_MO_emitNumber_77 : decode c_MO_emitNumber 77 = .ok (.ldc2_w 115, 3) := by decide +kernel
theorem d_MO_emitNumber_80 : decode c_MO_emitNumber 80 = .ok (.ldiv, 1) := by decide +kernel
theorem d_MO_emitNumber_81 : decode c_MO_emitNumber 81 = .ok (.lstore 5, 2) := by decide +kernel
theorem d_MO_emitNumber_83 : decode c_MO_emitNumber 83 = .ok (.goto (-33), 3) := by decide +kernel
theorem d_MO_emitNumber_86 : decode c_MO_emitNumber 86 = .ok (.return_, 1) := by decide +kernel
def ws_MO_emitNumber : List Cond := .code y_MO_emitNumber c_MO_emitNumber 7 none :: TBL
theorem d_MO_letter_0 : decode c_MO_letter 0 = .ok (.iload_n 1, 1) := by decide +kernel
theorem d_MO_letter_1 : decode c_MO_letter 1 = .ok (.invokestatic 184, 3) := by decide +kernel
theorem d_MO_letter_4 : decode c_MO_letter 4 = .ok (.ifCond .eq 16, 3) := by decide +kernel
theorem d_MO_letter_7 : decode c_MO_letter 7 = .ok (.aload_n 0, 1) := by decide +kernel
theorem d_MO_letter_8 : decode c_MO_letter 8 = .ok (.getfield 7, 3) := by decide +kernel
theorem d_MO_letter_11 : decode c_MO_letter 11 = .ok (.iload_n 1, 1) := by decide +kernel
theorem d_MO_letter_12 : decode c_MO_letter 12 = .ok (.iaload, 1) := by decide +kernel
theorem d_MO_letter_13 : decode c_MO_letter 13 = .ok (.ifCond .eq 7, 3) := by decide +kernel
theorem d_MO_letter_16 : decode c_MO_letter 16 = .ok (.iload_n 2, 1) := by decide +kernel
theorem d_MO_letter_17 : decode c_MO_letter 17 = .ok (.ifCond .ge 5, 3) := by decide +kernel
theorem d_MO_letter_20 : decode c_MO_letter 20 = .ok (.iconst (-1), 1) := by decide +kernel
theorem d_MO_letter_21 : decode c_MO_letter 21 = .ok (.ireturn, 1) := by decide +kernel
theorem d_MO_letter_22 : decode c_MO_letter 22 = .ok (.aload_n 0, 1) := by decide +kernel
theorem d_MO_letter_23 : decode c_MO_letter 23 = .ok (.iload_n 1, 1) := by decide +kernel
theorem d_MO_letter_24 : decode c_MO_letter 24 = .ok (.iload_n 1, 1) := by decide +kernel
theorem d_MO_letter_25 : decode c_MO_letter 25 = .ok (.invokestatic 73, 3) := by decide +kernel
theorem d_MO_letter_28 : decode c_MO_letter 28 = .ok (.iload_n 2, 1) := by decide +kernel
theorem d_MO_letter_29 : decode c_MO_letter 29 = .ok (.invokevirtual 372, 3) := by decide +kernel
theorem d_MO_letter_32 : decode c_MO_letter 32 = .ok (.aload_n 0, 1) := by decide +kernel
theorem d_MO_letter_33 : decode c_MO_letter 33 = .ok (.getfield 348, 3) := by decide +kernel
theorem d_MO_letter_36 : decode c_MO_letter 36 = .ok (.ireturn, 1) := by decide +kernel
def ws_MO_letter : List Cond := .code y_MO_letter c_MO_letter 3 (some .int) :: TBL
theorem d_MO_results_0 : decode c_MO_results 0 = .ok (.aload_n 0, 1) := by decide +kernel
theorem d_MO_results_1 : decode c_MO_results 1 = .ok (.getfield 193, 3) := by decide +kernel
theorem d_MO_results_4 : decode c_MO_results 4 = .ok (.ireturn, 1) := by decide +kernel
def ws_MO_results : List Cond := .code y_MO_results c_MO_results 1 (some .int) :: TBL
theorem d_MO_shown_0 : decode c_MO_shown 0 = .ok (.iload_n 1, 1) := by decide +kernel
theorem d_MO_shown_1 : decode c_MO_shown 1 = .ok (.ifCond .lt 15, 3) := by decide +kernel
theorem d_MO_shown_4 : decode c_MO_shown 4 = .ok (.iload_n 1, 1) := by decide +kernel
theorem d_MO_shown_5 : decode c_MO_shown 5 = .ok (.aload_n 0, 1) := by decide +kernel
theorem d_MO_shown_6 : decode c_MO_shown 6 = .ok (.getfield 193, 3) := by decide +kernel
theorem d_MO_shown_9 : decode c_MO_shown 9 = .ok (.if_icmp .ge 7, 3) := by decide +kernel
theorem d_MO_shown_12 : decode c_MO_shown 12 = .ok (.iload_n 2, 1) := by decide +kernel
theorem d_MO_shown_13 : decode c_MO_shown 13 = .ok (.ifCond .ge 5, 3) := by decide +kernel
theorem d_MO_shown_16 : decode c_MO_shown 16 = .ok (.iconst (-1), 1) := by decide +kernel
theorem d_MO_shown_17 : decode c_MO_shown 17 = .ok (.ireturn, 1) := by decide +kernel
theorem d_MO_shown_18 : decode c_MO_shown 18 = .ok (.aload_n 0, 1) := by decide +kernel
theorem d_MO_shown_19 : decode c_MO_shown 19 = .ok (.bipush 6, 2) := by decide +kernel
theorem d_MO_shown_21 : decode c_MO_shown 21 = .ok (.bipush 6, 2) := by decide +kernel
theorem d_MO_shown_23 : decode c_MO_shown 23 = .ok (.invokestatic 73, 3) := by decide +kernel
theorem d_MO_shown_26 : decode c_MO_shown 26 = .ok (.aload_n 0, 1) := by decide +kernel
theorem d_MO_shown_27 : decode c_MO_shown 27 = .ok (.getfield 54, 3) := by decide +kernel
theorem d_MO_shown_30 : decode c_MO_shown 30 = .ok (.iload_n 1, 1) := by decide +kernel
theorem d_MO_shown_31 : decode c_MO_shown 31 = .ok (.iaload, 1) := by decide +kernel
theorem d_MO_shown_32 : decode c_MO_shown 32 = .ok (.iadd, 1) := by decide +kernel
theorem d_MO_shown_33 : decode c_MO_shown 33 = .ok (.iload_n 2, 1) := by decide +kernel
theorem d_MO_shown_34 : decode c_MO_shown 34 = .ok (.invokevirtual 372, 3) := by decide +kernel
theorem d_MO_shown_37 : decode c_MO_shown 37 = .ok (.aload_n 0, 1) := by decide +kernel
theorem d_MO_shown_38 : decode c_MO_shown 38 = .ok (.getfield 348, 3) := by decide +kernel
theorem d_MO_shown_41 : decode c_MO_shown 41 = .ok (.ireturn, 1) := by decide +kernel
def ws_MO_shown : List Cond := .code y_MO_shown c_MO_shown 3 (some .int) :: TBL
theorem d_MO_draft_0 : decode c_MO_draft 0 = .ok (.aload_n 0, 1) := by decide +kernel
theorem d_MO_draft_1 : decode c_MO_draft 1 = .ok (.getfield 93, 3) := by decide +kernel
theorem d_MO_draft_4 : decode c_MO_draft 4 = .ok (.ireturn, 1) := by decide +kernel
def ws_MO_draft : List Cond := .code y_MO_draft c_MO_draft 1 (some .int) :: TBL
theorem d_MO_depth_0 : decode c_MO_depth 0 = .ok (.iload_n 1, 1) := by decide +kernel
theorem d_MO_depth_1 : decode c_MO_depth 1 = .ok (.invokestatic 184, 3) := by decide +kernel
theorem d_MO_depth_4 : decode c_MO_depth 4 = .ok (.ifCond .eq 20, 3) := by decide +kernel
theorem d_MO_depth_7 : decode c_MO_depth 7 = .ok (.aload_n 0, 1) := by decide +kernel
theorem d_MO_depth_8 : decode c_MO_depth 8 = .ok (.getfield 7, 3) := by decide +kernel
theorem d_MO_depth_11 : decode c_MO_depth 11 = .ok (.iload_n 1, 1) := by decide +kernel
theorem d_MO_depth_12 : decode c_MO_depth 12 = .ok (.iaload, 1) := by decide +kernel
theorem d_MO_depth_13 : decode c_MO_depth 13 = .ok (.ifCond .le 11, 3) := by decide +kernel
theorem d_MO_depth_16 : decode c_MO_depth 16 = .ok (.aload_n 0, 1) := by decide +kernel
theorem d_MO_depth_17 : decode c_MO_depth 17 = .ok (.iload_n 1, 1) := by decide +kernel
theorem d_MO_depth_18 : decode c_MO_depth 18 = .ok (.invokevirtual 218, 3) := by decide +kernel
theorem d_MO_depth_21 : decode c_MO_depth 21 = .ok (.goto 4, 3) := by decide +kernel
theorem d_MO_depth_24 : decode c_MO_depth 24 = .ok (.iconst (-1), 1) := by decide +kernel
theorem d_MO_depth_25 : decode c_MO_depth 25 = .ok (.ireturn, 1) := by decide +kernel
def ws_MO_depth : List Cond := .code y_MO_depth c_MO_depth 2 (some .int) :: TBL
theorem d_MO_count_0 : decode c_MO_count 0 = .ok (.iload_n 1, 1) := by decide +kernel
theorem d_MO_count_1 : decode c_MO_count 1 = .ok (.invokestatic 184, 3) := by decide +kernel
theorem d_MO_count_4 : decode c_MO_count 4 = .ok (.ifCond .eq 12, 3) := by decide +kernel
theorem d_MO_count_7 : decode c_MO_count 7 = .ok (.aload_n 0, 1) := by decide +kernel
theorem d_MO_count_8 : decode c_MO_count 8 = .ok (.getfield 7, 3) := by decide +kernel
theorem d_MO_count_11 : decode c_MO_count 11 = .ok (.iload_n 1, 1) := by decide +kernel
theorem d_MO_count_12 : decode c_MO_count 12 = .ok (.iaload, 1) := by decide +kernel
theorem d_MO_count_13 : decode c_MO_count 13 = .ok (.goto 4, 3) := by decide +kernel
theorem d_MO_count_16 : decode c_MO_count 16 = .ok (.iconst 0, 1) := by decide +kernel
theorem d_MO_count_17 : decode c_MO_count 17 = .ok (.ireturn, 1) := by decide +kernel
def ws_MO_count : List Cond := .code y_MO_count c_MO_count 2 (some .int) :: TBL
