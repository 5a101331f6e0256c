theorem d_PS_letter_0 : decode c_PS_letter 0 = .ok (.aload_n 0, 1) := by decide +kernel
theorem d_PS_letter_1 : decode c_PS_letter 1 = .ok (.iload_n 1, 1) := by decide +kernel
theorem d_PS_letter_2 : decode c_PS_letter 2 = .ok (.invokevirtual 65, 3) := by decide +kernel
theorem d_PS_letter_5 : decode c_PS_letter 5 = .ok (.iload_n 2, 1) := by decide +kernel
theorem d_PS_letter_6 : decode c_PS_letter 6 = .ok (.invokestatic 126, 3) := by decide +kernel
theorem d_PS_letter_9 : decode c_PS_letter 9 = .ok (.ireturn, 1) := by decide +kernel
def ws_PS_letter : List Cond := .code y_PS_letter c_PS_letter 3 (some .int) :: TBL
theorem d_PS_letterOf_0 : decode c_PS_letterOf 0 = .ok (.aload_n 0, 1) := by decide +kernel
theorem d_PS_letterOf_1 : decode c_PS_letterOf 1 = .ok (.ifnull 7, 3) := by decide +kernel
theorem d_PS_letterOf_4 : decode c_PS_letterOf 4 = .ok (.iload_n 1, 1) := by decide +kernel
theorem d_PS_letterOf_5 : decode c_PS_letterOf 5 = .ok (.ifCond .ge 5, 3) := by decide +kernel
theorem d_PS_letterOf_8 : decode c_PS_letterOf 8 = .ok (.iconst (-1), 1) := by decide +kernel
theorem d_PS_letterOf_9 : decode c_PS_letterOf 9 = .ok (.ireturn, 1) := by decide +kernel
theorem d_PS_letterOf_10 : decode c_PS_letterOf 10 = .ok (.new 114, 3) := by decide +kernel
theorem d_PS_letterOf_13 : decode c_PS_letterOf 13 = .ok (.dup, 1) := by decide +kernel
theorem d_PS_letterOf_14 : decode c_PS_letterOf 14 = .ok (.iload_n 1, 1) := by decide +kernel
theorem d_PS_letterOf_15 : decode c_PS_letterOf 15 = .ok (.invokespecial 116, 3) := by decide +kernel
theorem d_PS_letterOf_18 : decode c_PS_letterOf 18 = .ok (.astore_n 2, 1) := by decide +kernel
theorem d_PS_letterOf_19 : decode c_PS_letterOf 19 = .ok (.aload_n 2, 1) := by decide +kernel
theorem d_PS_letterOf_20 : decode c_PS_letterOf 20 = .ok (.aload_n 0, 1) := by decide +kernel
theorem d_PS_letterOf_21 : decode c_PS_letterOf 21 = .ok (.invokevirtual 119, 3) := by decide +kernel
theorem d_PS_letterOf_24 : decode c_PS_letterOf 24 = .ok (.aload_n 2, 1) := by decide +kernel
theorem d_PS_letterOf_25 : decode c_PS_letterOf 25 = .ok (.getfield 138, 3) := by decide +kernel
theorem d_PS_letterOf_28 : decode c_PS_letterOf 28 = .ok (.ireturn, 1) := by decide +kernel
def ws_PS_letterOf : List Cond := .code y_PS_letterOf c_PS_letterOf 3 (some .int) :: TBL
theorem d_PS_results_0 : decode c_PS_results 0 = .ok (.aload_n 0, 1) := by decide +kernel
theorem d_PS_results_1 : decode c_PS_results 1 = .ok (.getfield 36, 3) := by decide +kernel
theorem d_PS_results_4 : decode c_PS_results 4 = .ok (.invokevirtual 100, 3) := by decide +kernel
theorem d_PS_results_7 : decode c_PS_results 7 = .ok (.ireturn, 1) := by decide +kernel
def ws_PS_results : List Cond := .code y_PS_results c_PS_results 1 (some .int) :: TBL
theorem d_PS_shown_0 : decode c_PS_shown 0 = .ok (.iload_n 1, 1) := by decide +kernel
theorem d_PS_shown_1 : decode c_PS_shown 1 = .ok (.ifCond .lt 14, 3) := by decide +kernel
theorem d_PS_shown_4 : decode c_PS_shown 4 = .ok (.iload_n 1, 1) := by decide +kernel
theorem d_PS_shown_5 : decode c_PS_shown 5 = .ok (.aload_n 0, 1) := by decide +kernel
theorem d_PS_shown_6 : decode c_PS_shown 6 = .ok (.getfield 36, 3) := by decide +kernel
theorem d_PS_shown_9 : decode c_PS_shown 9 = .ok (.invokevirtual 100, 3) := by decide +kernel
theorem d_PS_shown_12 : decode c_PS_shown 12 = .ok (.if_icmp .lt 5, 3) := by decide +kernel
theorem d_PS_shown_15 : decode c_PS_shown 15 = .ok (.iconst (-1), 1) := by decide +kernel
theorem d_PS_shown_16 : decode c_PS_shown 16 = .ok (.ireturn, 1) := by decide +kernel
theorem d_PS_shown_17 : decode c_PS_shown 17 = .ok (.aload_n 0, 1) := by decide +kernel
theorem d_PS_shown_18 : decode c_PS_shown 18 = .ok (.getfield 36, 3) := by decide +kernel
theorem d_PS_shown_21 : decode c_PS_shown 21 = .ok (.iload_n 1, 1) := by decide +kernel
theorem d_PS_shown_22 : decode c_PS_shown 22 = .ok (.invokevirtual 104, 3) := by decide +kernel
theorem d_PS_shown_25 : decode c_PS_shown 25 = .ok (.checkcast 24, 3) := by decide +kernel
theorem d_PS_shown_28 : decode c_PS_shown 28 = .ok (.iload_n 2, 1) := by decide +kernel
theorem d_PS_shown_29 : decode c_PS_shown 29 = .ok (.invokestatic 126, 3) := by decide +kernel
theorem d_PS_shown_32 : decode c_PS_shown 32 = .ok (.ireturn, 1) := by decide +kernel
def ws_PS_shown : List Cond := .code y_PS_shown c_PS_shown 3 (some .int) :: TBL
theorem d_PS_draft_0 : decode c_PS_draft 0 = .ok (.aload_n 0, 1) := by decide +kernel
theorem d_PS_draft_1 : decode c_PS_draft 1 = .ok (.getfield 13, 3) := by decide +kernel
theorem d_PS_draft_4 : decode c_PS_draft 4 = .ok (.ireturn, 1) := by decide +kernel
def ws_PS_draft : List Cond := .code y_PS_draft c_PS_draft 1 (some .int) :: TBL
theorem d_PS_depth_0 : decode c_PS_depth 0 = .ok (.aload_n 0, 1) := by decide +kernel
theorem d_PS_depth_1 : decode c_PS_depth 1 = .ok (.iload_n 1, 1) := by decide +kernel
theorem d_PS_depth_2 : decode c_PS_depth 2 = .ok (.invokevirtual 65, 3) := by decide +kernel
theorem d_PS_depth_5 : decode c_PS_depth 5 = .ok (.astore_n 2, 1) := by decide +kernel
theorem d_PS_depth_6 : decode c_PS_depth 6 = .ok (.aload_n 2, 1) := by decide +kernel
theorem d_PS_depth_7 : decode c_PS_depth 7 = .ok (.ifnonnull 7, 3) := by decide +kernel
theorem d_PS_depth_10 : decode c_PS_depth 10 = .ok (.iconst (-1), 1) := by decide +kernel
theorem d_PS_depth_11 : decode c_PS_depth 11 = .ok (.goto 7, 3) := by decide +kernel
theorem d_PS_depth_14 : decode c_PS_depth 14 = .ok (.aload_n 2, 1) := by decide +kernel
theorem d_PS_depth_15 : decode c_PS_depth 15 = .ok (.getfield 130, 3) := by decide +kernel
theorem d_PS_depth_18 : decode c_PS_depth 18 = .ok (.ireturn, 1) := by decide +kernel
def ws_PS_depth : List Cond := .code y_PS_depth c_PS_depth 3 (some .int) :: TBL
theorem d_PS_count_0 : decode c_PS_count 0 = .ok (.aload_n 0, 1) := by decide +kernel
theorem d_PS_count_1 : decode c_PS_count 1 = .ok (.iload_n 1, 1) := by decide +kernel
theorem d_PS_count_2 : decode c_PS_count 2 = .ok (.invokevirtual 65, 3) := by decide +kernel
theorem d_PS_count_5 : decode c_PS_count 5 = .ok (.astore_n 2, 1) := by decide +kernel
theorem d_PS_count_6 : decode c_PS_count 6 = .ok (.aload_n 2, 1) := by decide +kernel
theorem d_PS_count_7 : decode c_PS_count 7 = .ok (.ifnonnull 7, 3) := by decide +kernel
theorem d_PS_count_10 : decode c_PS_count 10 = .ok (.iconst 0, 1) := by decide +kernel
theorem d_PS_count_11 : decode c_PS_count 11 = .ok (.goto 7, 3) := by decide +kernel
theorem d_PS_count_14 : decode c_PS_count 14 = .ok (.aload_n 2, 1) := by decide +kernel
theorem d_PS_count_15 : decode c_PS_count 15 = .ok (.getfield 62, 3) := by decide +kernel
theorem d_PS_count_18 : decode c_PS_count 18 = .ok (.ireturn, 1) := by decide +kernel
def ws_PS_count : List Cond := .code y_PS_count c_PS_count 3 (some .int) :: TBL
theorem d_PS_commit_0 : decode c_PS_commit 0 = .ok (.iconst 0, 1) := by decide +kernel
theorem d_PS_commit_1 : decode c_PS_commit 1 = .ok (.istore_n 1, 1) := by decide +kernel
theorem d_PS_commit_2 : decode c_PS_commit 2 = .ok (.iload_n 1, 1) := by decide +kernel
theorem d_PS_commit_3 : decode c_PS_commit 3 = .ok (.iconst 3, 1) := by decide +kernel
theorem d_PS_commit_4 : decode c_PS_commit 4 = .ok (.if_icmp .ge 21, 3) := by decide +kernel
theorem d_PS_commit_7 : decode c_PS_commit 7 = .ok (.aload_n 0, 1) := by decide +kernel
theorem d_PS_commit_8 : decode c_PS_commit 8 = .ok (.getfield 30, 3) := by decide +kernel
theorem d_PS_commit_11 : decode c_PS_commit 11 = .ok (.iload_n 1, 1) := by decide +kernel
theorem d_PS_commit_12 : decode c_PS_commit 12 = .ok (.aload_n 0, 1) := by decide +kernel
theorem d_PS_commit_13 : decode c_PS_commit 13 = .ok (.getfield 26, 3) := by decide +kernel
theorem d_PS_commit_16 : decode c_PS_commit 16 = .ok (.iload_n 1, 1) := by decide +kernel
theorem d_PS_commit_17 : decode c_PS_commit 17 = .ok (.aaload, 1) := by decide +kernel
theorem d_PS_commit_18 : decode c_PS_commit 18 = .ok (.aastore, 1) := by decide +kernel
theorem d_PS_commit_19 : decode c_PS_commit 19 = .ok (.iinc 1 1, 3) := by decide +kernel
theorem d_PS_commit_22 : decode c_PS_commit 22 = .ok (.goto (-20), 3) := by decide +kernel
theorem d_PS_commit_25 : decode c_PS_commit 25 = .ok (.return_, 1) := by decide +kernel
def ws_PS_commit : List Cond := .code y_PS_commit c_PS_commit 2 none :: TBL
theorem d_PS_crash_0 : decode c_PS_crash 0 = .ok (.iconst 0, 1) := by decide +kernel
theorem d_PS_crash_1 : decode c_PS_crash 1 = .ok (.istore_n 1, 1) := by decide +kernel
theorem d_PS_crash_2 : decode c_PS_crash 2 = .ok (.iload_n 1, 1) := by decide +kernel
theorem d_PS_crash_3 : decode c_PS_crash 3 = .ok (.iconst 3, 1) := by decide +kernel
theorem d_PS_crash_4 : decode c_PS_crash 4 = .ok (.if_icmp .ge 21, 3) := by decide +kernel
theorem d_PS_crash_7 : decode c_PS_crash 7 = .ok (.aload_n 0, 1) := by decide +kernel
theorem d_PS_crash_8 : decode c_PS_crash 8 = .ok (.getfield 26, 3) := by decide +kernel
theorem d_PS_crash_11 : decode c_PS_crash 11 = .ok (.iload_n 1, 1) := by decide +kernel
theorem d_PS_crash_12 : decode c_PS_crash 12 = .ok (.aload_n 0, 1) := by decide +kernel
theorem d_PS_crash_13 : decode c_PS_crash 13 = .ok (.getfield 30, 3) := by decide +kernel
theorem d_PS_crash_16 : decode c_PS_crash 16 = .ok (.iload_n 1, 1) := by decide +kernel
theorem d_PS_crash_17 : decode c_PS_crash 17 = .ok (.aaload, 1) := by decide +kernel
theorem d_PS_crash_18 : decode c_PS_crash 18 = .ok (.aastore, 1) := by decide +kernel
theorem d_PS_crash_19 : decode c_PS_crash 19 = .ok (.iinc 1 1, 3) := by decide +kernel
theorem d_PS_crash_22 : decode c_PS_crash 22 = .ok (.goto (-20), 3) := by decide +kernel
theorem d_PS_crash_25 : decode c_PS_crash 25 = .ok (.aload_n 0, 1) := by decide +kernel
theorem d_PS_crash_26 : decode c_PS_crash 26 = .ok (.iconst 0, 1) := by decide +kernel
theorem d_PS_crash_27 : decode c_PS_crash 27 = .ok (.putfield 13, 3) := by decide +kernel
theorem d_PS_crash_30 : decode c_PS_crash 30 = .ok (.aload_n 0, 1) := by decide +kernel
theorem d_PS_crash_31 : decode c_PS_crash 31 = .ok (.new 33, 3) := by decide +kernel
theorem d_PS_crash_34 : decode c_PS_crash 34 = .ok (.dup, 1) := by decide +kernel
theorem d_PS_crash_35 : decode c_PS_crash 35 = .ok (.invokespecial 35, 3) := by decide +kernel
theorem d_PS_crash_38 : decode c_PS_crash 38 = .ok (.putfield 36, 3) := by decide +kernel
theorem d_PS_crash_41 : decode c_PS_crash 41 = .ok (.return_, 1) := by decide +kernel
def ws_PS_crash : List Cond := .code y_PS_crash c_PS_crash 2 none :: TBL
theorem d_LA_cell_0 : decode c_LA_cell 0 = .ok (.iload_n 1, 1) := by decide +kernel
theorem d_LA_cell_1 : decode c_LA_cell 1 = .ok (.aload_n 0, 1) := by decide +kernel
theorem d_LA_cell_2 : decode c_LA_cell 2 = .ok (.arraylength, 1) := by decide +kernel
theorem d_LA_cell_3 : decode c_LA_cell 3 = .ok (.if_icmp .ge 9, 3) := by decide +kernel
theorem d_LA_cell_6 : decode c_LA_cell 6 = .ok (.aload_n 0, 1) := by decide +kernel
theorem d_LA_cell_7 : decode c_LA_cell 7 = .ok (.iload_n 1, 1) := by decide +kernel
theorem d_LA_cell_8 : decode c_LA_cell 8 = .ok (.iaload, 1) := by decide +kernel
theorem d_LA_cell_9 : decode c_LA_cell 9 = .ok (.goto 4, 3) := by decide +kernel
theorem d_LA_cell_12 : decode c_LA_cell 12 = .ok (.iconst 0, 1) := by decide +kernel
theorem d_LA_cell_13 : decode c_LA_cell 13 = .ok (.ireturn, 1) := by decide +kernel
def ws_LA_cell : List Cond := .code y_LA_cell c_LA_cell 2 (some .int) :: TBL
