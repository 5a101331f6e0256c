theorem n_nw0 : Cond.fieldLinkNest R_PS 59 "PatchStore$JsonReader" "fault" "I" "PatchStore" ∈ lw_tbl := List.mem_append_right _ (List.mem_append_left _ (List.mem_of_getElem? (i := 164) (by decide +kernel)))
theorem n_nw1 : Cond.castable "[B" "java/lang/Cloneable" ∈ lw_tbl := List.mem_append_right _ (List.mem_append_left _ (List.mem_of_getElem? (i := 227) (by decide +kernel)))
theorem n_nw2 : Cond.methodLinkNest R_CU 48 y_PS_isDigit "PatchStore" ∈ lw_tbl := List.mem_append_right _ (List.mem_append_right _ (List.mem_append_left _ (List.mem_of_getElem? (i := 185) (by decide +kernel))))
theorem n_nw3 : Cond.methodLinkNest R_PT 78 y_PS_isDigit "PatchStore" ∈ lw_tbl := List.mem_append_right _ (List.mem_append_right _ (List.mem_append_right _ (List.mem_append_left _ (List.mem_of_getElem? (i := 145) (by decide +kernel)))))
theorem n_nw4 : Cond.fieldLinkNest R_PS 84 "PatchStore$Patcher" "document" "LPatchStore$Value;" "PatchStore" ∈ lw_tbl := List.mem_append_right _ (List.mem_append_right _ (List.mem_append_right _ (List.mem_append_right _ (List.mem_append_left _ (List.mem_of_getElem? (i := 38) (by decide +kernel))))))
theorem n_nw5 : Cond.methodLinkNest R_PA 80 y_VA_same "PatchStore" ∈ lw_tbl := List.mem_append_right _ (List.mem_append_right _ (List.mem_append_right _ (List.mem_append_right _ (List.mem_append_left _ (List.mem_of_getElem? (i := 114) (by decide +kernel))))))
theorem n_nw6 : Cond.fieldLinkNest R_PR 59 "PatchStore$Segment" "deep" "Z" "PatchStore" ∈ lw_tbl := List.mem_append_right _ (List.mem_append_right _ (List.mem_append_right _ (List.mem_append_right _ (List.mem_append_left _ (List.mem_of_getElem? (i := 161) (by decide +kernel))))))
theorem n_nw7 : Cond.fieldLinkNest R_PR 52 "PatchStore$Segment" "selectors" "Ljava/util/ArrayList;" "PatchStore" ∈ lw_tbl := List.mem_append_right _ (List.mem_append_right _ (List.mem_append_right _ (List.mem_append_right _ (List.mem_append_left _ (List.mem_of_getElem? (i := 163) (by decide +kernel))))))
theorem n_nw8 : Cond.methodLinkNest R_CU 44 y_PS_isLetter "PatchStore" ∈ lw_tbl := List.mem_append_right _ (List.mem_append_right _ (List.mem_append_right _ (List.mem_append_right _ (List.mem_append_left _ (List.mem_of_getElem? (i := 202) (by decide +kernel))))))
theorem n_nw9 : Cond.methodLinkNest R_PR 106 y_PS_isDigit "PatchStore" ∈ lw_tbl := List.mem_append_right _ (List.mem_append_right _ (List.mem_append_right _ (List.mem_append_right _ (List.mem_append_left _ (List.mem_of_getElem? (i := 236) (by decide +kernel))))))
theorem n_nw10 : Cond.methodLinkNest R_TE 37 y_VA_same "PatchStore" ∈ lw_tbl := List.mem_append_right _ (List.mem_append_right _ (List.mem_append_right _ (List.mem_append_right _ (List.mem_append_right _ (List.mem_append_left _ (List.mem_of_getElem? (i := 80) (by decide +kernel)))))))
theorem n_nw11 : Cond.fieldLinkNest R_PS 123 "PatchStore$Scribe" "spelled" "I" "PatchStore" ∈ lw_tbl := List.mem_append_right _ (List.mem_append_right _ (List.mem_append_right _ (List.mem_append_right _ (List.mem_append_right _ (List.mem_append_left _ (List.mem_of_getElem? (i := 103) (by decide +kernel)))))))
theorem n_nw12 : Cond.fieldLinkNest R_PS 138 "PatchStore$Scribe" "letter" "I" "PatchStore" ∈ lw_tbl := List.mem_append_right _ (List.mem_append_right _ (List.mem_append_right _ (List.mem_append_right _ (List.mem_append_right _ (List.mem_append_left _ (List.mem_of_getElem? (i := 105) (by decide +kernel)))))))
theorem n_nw13 : Cond.methodLinkNest R_PS 119 y_SC_spell "PatchStore" ∈ lw_tbl := List.mem_append_right _ (List.mem_append_right _ (List.mem_append_right _ (List.mem_append_right _ (List.mem_append_right _ (List.mem_append_left _ (List.mem_of_getElem? (i := 113) (by decide +kernel)))))))
theorem n_nw14 : Cond.castable "PatchStore$Value" "PatchStore$Value" ∈ lw_tbl := List.mem_append_right _ (List.mem_append_right _ (List.mem_append_right _ (List.mem_append_right _ (List.mem_append_right _ (List.mem_append_right _ (List.mem_append_right _ (List.mem_of_getElem? (i := 165) (by decide +kernel))))))))
theorem n_nw15 : Cond.castable "PatchStore$Operation" "PatchStore$Operation" ∈ lw_tbl := List.mem_append_right _ (List.mem_append_right _ (List.mem_append_right _ (List.mem_append_right _ (List.mem_append_right _ (List.mem_append_right _ (List.mem_append_right _ (List.mem_of_getElem? (i := 166) (by decide +kernel))))))))
theorem n_nw16 : Cond.castable "PatchStore$Segment" "PatchStore$Segment" ∈ lw_tbl := List.mem_append_right _ (List.mem_append_right _ (List.mem_append_right _ (List.mem_append_right _ (List.mem_append_right _ (List.mem_append_right _ (List.mem_append_right _ (List.mem_of_getElem? (i := 167) (by decide +kernel))))))))
theorem n_nw17 : Cond.castable "PatchStore$Selector" "PatchStore$Selector" ∈ lw_tbl := List.mem_append_right _ (List.mem_append_right _ (List.mem_append_right _ (List.mem_append_right _ (List.mem_append_right _ (List.mem_append_right _ (List.mem_append_right _ (List.mem_of_getElem? (i := 168) (by decide +kernel))))))))
theorem n_nw18 : Cond.declares ⟨R_OJ, "getClass", "()Ljava/lang/Class;"⟩ ∈ lw_tbl := List.mem_append_right _ (List.mem_append_right _ (List.mem_append_right _ (List.mem_append_right _ (List.mem_append_right _ (List.mem_append_right _ (List.mem_append_right _ (List.mem_of_getElem? (i := 171) (by decide +kernel))))))))
theorem n_nw19 : Cond.castable "PatchStore" "java/lang/Object" ∈ lw_tbl := List.mem_append_right _ (List.mem_append_right _ (List.mem_append_right _ (List.mem_append_right _ (List.mem_append_right _ (List.mem_append_right _ (List.mem_append_right _ (List.mem_of_getElem? (i := 172) (by decide +kernel))))))))
theorem n_nw20 : Cond.castable "PatchStoreModel" "java/lang/Object" ∈ lw_tbl := List.mem_append_right _ (List.mem_append_right _ (List.mem_append_right _ (List.mem_append_right _ (List.mem_append_right _ (List.mem_append_right _ (List.mem_append_right _ (List.mem_of_getElem? (i := 173) (by decide +kernel))))))))
theorem n_nw21 : Cond.castable "PatchStore$Cursor" "java/lang/Object" ∈ lw_tbl := List.mem_append_right _ (List.mem_append_right _ (List.mem_append_right _ (List.mem_append_right _ (List.mem_append_right _ (List.mem_append_right _ (List.mem_append_right _ (List.mem_of_getElem? (i := 174) (by decide +kernel))))))))
theorem n_nw22 : Cond.castable "PatchStore$JsonReader" "java/lang/Object" ∈ lw_tbl := List.mem_append_right _ (List.mem_append_right _ (List.mem_append_right _ (List.mem_append_right _ (List.mem_append_right _ (List.mem_append_right _ (List.mem_append_right _ (List.mem_of_getElem? (i := 175) (by decide +kernel))))))))
theorem n_nw23 : Cond.castable "java/lang/String" "java/lang/Object" ∈ lw_tbl := List.mem_append_right _ (List.mem_append_right _ (List.mem_append_right _ (List.mem_append_right _ (List.mem_append_right _ (List.mem_append_right _ (List.mem_append_right _ (List.mem_of_getElem? (i := 176) (by decide +kernel))))))))
theorem n_nw24 : Cond.castable "PatchStore$Value" "java/lang/Object" ∈ lw_tbl := List.mem_append_right _ (List.mem_append_right _ (List.mem_append_right _ (List.mem_append_right _ (List.mem_append_right _ (List.mem_append_right _ (List.mem_append_right _ (List.mem_of_getElem? (i := 177) (by decide +kernel))))))))
theorem n_nw25 : Cond.castable "PatchStore$Pointer" "java/lang/Object" ∈ lw_tbl := List.mem_append_right _ (List.mem_append_right _ (List.mem_append_right _ (List.mem_append_right _ (List.mem_append_right _ (List.mem_append_right _ (List.mem_append_right _ (List.mem_of_getElem? (i := 178) (by decide +kernel))))))))
theorem n_nw26 : Cond.castable "PatchStore$Operation" "java/lang/Object" ∈ lw_tbl := List.mem_append_right _ (List.mem_append_right _ (List.mem_append_right _ (List.mem_append_right _ (List.mem_append_right _ (List.mem_append_right _ (List.mem_append_right _ (List.mem_of_getElem? (i := 179) (by decide +kernel))))))))
theorem n_nw27 : Cond.castable "PatchStore$Patcher" "java/lang/Object" ∈ lw_tbl := List.mem_append_right _ (List.mem_append_right _ (List.mem_append_right _ (List.mem_append_right _ (List.mem_append_right _ (List.mem_append_right _ (List.mem_append_right _ (List.mem_of_getElem? (i := 180) (by decide +kernel))))))))
theorem n_nw28 : Cond.castable "PatchStore$PathReader" "java/lang/Object" ∈ lw_tbl := List.mem_append_right _ (List.mem_append_right _ (List.mem_append_right _ (List.mem_append_right _ (List.mem_append_right _ (List.mem_append_right _ (List.mem_append_right _ (List.mem_of_getElem? (i := 181) (by decide +kernel))))))))
theorem n_nw29 : Cond.castable "PatchStore$Segment" "java/lang/Object" ∈ lw_tbl := List.mem_append_right _ (List.mem_append_right _ (List.mem_append_right _ (List.mem_append_right _ (List.mem_append_right _ (List.mem_append_right _ (List.mem_append_right _ (List.mem_of_getElem? (i := 182) (by decide +kernel))))))))
theorem n_nw30 : Cond.castable "PatchStore$Selector" "java/lang/Object" ∈ lw_tbl := List.mem_append_right _ (List.mem_append_right _ (List.mem_append_right _ (List.mem_append_right _ (List.mem_append_right _ (List.mem_append_right _ (List.mem_append_right _ (List.mem_of_getElem? (i := 183) (by decide +kernel))))))))
theorem n_nw31 : Cond.castable "PatchStore$Test" "java/lang/Object" ∈ lw_tbl := List.mem_append_right _ (List.mem_append_right _ (List.mem_append_right _ (List.mem_append_right _ (List.mem_append_right _ (List.mem_append_right _ (List.mem_append_right _ (List.mem_of_getElem? (i := 184) (by decide +kernel))))))))
theorem n_nw32 : Cond.castable "PatchStore$Scribe" "java/lang/Object" ∈ lw_tbl := List.mem_append_right _ (List.mem_append_right _ (List.mem_append_right _ (List.mem_append_right _ (List.mem_append_right _ (List.mem_append_right _ (List.mem_append_right _ (List.mem_of_getElem? (i := 185) (by decide +kernel))))))))
theorem n_lr0 : Cond.stringRef R_VA 23 "" ∈ lw_tbl := List.mem_append_right _ (List.mem_append_right _ (List.mem_append_left _ (List.mem_of_getElem? (i := 135) (by decide +kernel))))
theorem n_lr1 : Cond.stringRef R_CU 76 "0" ∈ lw_tbl := List.mem_append_right _ (List.mem_append_right _ (List.mem_append_left _ (List.mem_of_getElem? (i := 197) (by decide +kernel))))
theorem n_lr2 : Cond.stringRef R_CU 55 "null" ∈ lw_tbl := List.mem_append_right _ (List.mem_append_right _ (List.mem_append_left _ (List.mem_of_getElem? (i := 206) (by decide +kernel))))
theorem n_lr3 : Cond.stringRef R_CU 57 "true" ∈ lw_tbl := List.mem_append_right _ (List.mem_append_right _ (List.mem_append_left _ (List.mem_of_getElem? (i := 207) (by decide +kernel))))
theorem n_lr4 : Cond.stringRef R_CU 59 "false" ∈ lw_tbl := List.mem_append_right _ (List.mem_append_right _ (List.mem_append_left _ (List.mem_of_getElem? (i := 208) (by decide +kernel))))
theorem n_lr5 : Cond.stringRef R_JR 66 "" ∈ lw_tbl := List.mem_append_right _ (List.mem_append_right _ (List.mem_append_left _ (List.mem_of_getElem? (i := 239) (by decide +kernel))))
theorem n_lr6 : Cond.stringRef R_OP 52 "op" ∈ lw_tbl := List.mem_append_right _ (List.mem_append_right _ (List.mem_append_right _ (List.mem_append_left _ (List.mem_of_getElem? (i := 109) (by decide +kernel)))))
theorem n_lr7 : Cond.stringRef R_OP 77 "add" ∈ lw_tbl := List.mem_append_right _ (List.mem_append_right _ (List.mem_append_right _ (List.mem_append_left _ (List.mem_of_getElem? (i := 122) (by decide +kernel)))))
theorem n_lr8 : Cond.stringRef R_OP 83 "remove" ∈ lw_tbl := List.mem_append_right _ (List.mem_append_right _ (List.mem_append_right _ (List.mem_append_left _ (List.mem_of_getElem? (i := 124) (by decide +kernel)))))
theorem n_lr9 : Cond.stringRef R_OP 85 "replace" ∈ lw_tbl := List.mem_append_right _ (List.mem_append_right _ (List.mem_append_right _ (List.mem_append_left _ (List.mem_of_getElem? (i := 125) (by decide +kernel)))))
theorem n_lr10 : Cond.stringRef R_OP 87 "move" ∈ lw_tbl := List.mem_append_right _ (List.mem_append_right _ (List.mem_append_right _ (List.mem_append_left _ (List.mem_of_getElem? (i := 126) (by decide +kernel)))))
theorem n_lr11 : Cond.stringRef R_OP 89 "copy" ∈ lw_tbl := List.mem_append_right _ (List.mem_append_right _ (List.mem_append_right _ (List.mem_append_left _ (List.mem_of_getElem? (i := 127) (by decide +kernel)))))
theorem n_lr12 : Cond.stringRef R_OP 91 "test" ∈ lw_tbl := List.mem_append_right _ (List.mem_append_right _ (List.mem_append_right _ (List.mem_append_left _ (List.mem_of_getElem? (i := 128) (by decide +kernel)))))
theorem n_lr13 : Cond.stringRef R_OP 62 "path" ∈ lw_tbl := List.mem_append_right _ (List.mem_append_right _ (List.mem_append_right _ (List.mem_append_left _ (List.mem_of_getElem? (i := 129) (by decide +kernel)))))
theorem n_lr14 : Cond.stringRef R_PT 35 "" ∈ lw_tbl := List.mem_append_right _ (List.mem_append_right _ (List.mem_append_right _ (List.mem_append_left _ (List.mem_of_getElem? (i := 135) (by decide +kernel)))))
theorem n_lr15 : Cond.stringRef R_LT 151 "" ∈ lw_tbl := List.mem_append_right _ (List.mem_append_right _ (List.mem_append_right _ (List.mem_append_left _ (List.mem_of_getElem? (i := 173) (by decide +kernel)))))
theorem n_lr16 : Cond.stringRef R_UT 295 "" ∈ lw_tbl := List.mem_append_right _ (List.mem_append_right _ (List.mem_append_right _ (List.mem_append_left _ (List.mem_of_getElem? (i := 182) (by decide +kernel)))))
theorem n_lr17 : Cond.stringRef R_OP 68 "from" ∈ lw_tbl := List.mem_append_right _ (List.mem_append_right _ (List.mem_append_right _ (List.mem_append_right _ (List.mem_append_left _ (List.mem_of_getElem? (i := 3) (by decide +kernel))))))
theorem n_lr18 : Cond.stringRef R_OP 72 "value" ∈ lw_tbl := List.mem_append_right _ (List.mem_append_right _ (List.mem_append_right _ (List.mem_append_right _ (List.mem_append_left _ (List.mem_of_getElem? (i := 27) (by decide +kernel))))))
theorem n_lr19 : Cond.stringRef R_PA 130 "-" ∈ lw_tbl := List.mem_append_right _ (List.mem_append_right _ (List.mem_append_right _ (List.mem_append_right _ (List.mem_append_left _ (List.mem_of_getElem? (i := 99) (by decide +kernel))))))
theorem n_lr20 : Cond.stringRef R_SE 30 "" ∈ lw_tbl := List.mem_append_right _ (List.mem_append_right _ (List.mem_append_right _ (List.mem_append_right _ (List.mem_append_left _ (List.mem_of_getElem? (i := 174) (by decide +kernel))))))
theorem n_overV : Cond.arrayOver (.object "PatchStore$Value") ∈ lw_tbl := List.mem_append_right _ (List.mem_append_left _ (List.mem_of_getElem? (i := 72) (by decide +kernel)))
theorem n_overO : Cond.arrayOver (.object "java/lang/Object") ∈ lw_tbl := List.mem_append_right _ (List.mem_append_right _ (List.mem_append_right _ (List.mem_append_left _ (List.mem_of_getElem? (i := 86) (by decide +kernel)))))
theorem n_compact : Cond.laysStatic "java/lang/String" "COMPACT_STRINGS" "Z" ∈ lw_tbl := List.mem_append_right _ (List.mem_append_left _ (List.mem_of_getElem? (i := 47) (by decide +kernel)))
theorem n_empty : Cond.laysStatic "java/util/ArrayList" "DEFAULTCAPACITY_EMPTY_ELEMENTDATA" "[Ljava/lang/Object;" ∈ lw_tbl := List.mem_append_right _ (List.mem_append_left _ (List.mem_of_getElem? (i := 86) (by decide +kernel)))
theorem n_form : Cond.laysStatic "jdk/internal/util/Preconditions" "SIOOBE_FORMATTER" "Ljava/util/function/BiFunction;" ∈ lw_tbl := List.mem_append_right _ (List.mem_append_right _ (List.mem_append_left _ (List.mem_of_getElem? (i := 66) (by decide +kernel))))
theorem n_sbi : Cond.instantiable R_SB 4 ∈ lw_tbl := List.mem_append_right _ (List.mem_append_left _ (List.mem_of_getElem? (i := 38) (by decide +kernel)))
theorem n_il0 : Cond.instanceMethod y_AB_isLatin1 ∈ lw_tbl := List.mem_append_right _ (List.mem_append_left _ (List.mem_of_getElem? (i := 236) (by decide +kernel)))
theorem n_il1 : Cond.selects R_SB y_AB_isLatin1 y_AB_isLatin1 ∈ lw_tbl := List.mem_append_right _ (List.mem_append_left _ (List.mem_of_getElem? (i := 238) (by decide +kernel)))
theorem n_pr_ensureCapacityInternal : Cond.privateMethod y_AB_ensureCapacityInternal ∈ lw_tbl := List.mem_append_right _ (List.mem_append_left _ (List.mem_of_getElem? (i := 201) (by decide +kernel)))
theorem n_in_ensureCapacityInternal : Cond.instanceMethod y_AB_ensureCapacityInternal ∈ lw_tbl := List.mem_append_right _ (List.mem_append_left _ (List.mem_of_getElem? (i := 202) (by decide +kernel)))
theorem n_pr_newCapacity : Cond.privateMethod y_AB_newCapacity ∈ lw_tbl := List.mem_append_right _ (List.mem_append_left _ (List.mem_of_getElem? (i := 205) (by decide +kernel)))
theorem n_in_newCapacity : Cond.instanceMethod y_AB_newCapacity ∈ lw_tbl := List.mem_append_right _ (List.mem_append_left _ (List.mem_of_getElem? (i := 206) (by decide +kernel)))
theorem n_pr_inflate : Cond.privateMethod y_AB_inflate ∈ lw_tbl := List.mem_append_right _ (List.mem_append_right _ (List.mem_append_left _ (List.mem_of_getElem? (i := 105) (by decide +kernel))))
theorem n_in_inflate : Cond.instanceMethod y_AB_inflate ∈ lw_tbl := List.mem_append_right _ (List.mem_append_right _ (List.mem_append_left _ (List.mem_of_getElem? (i := 106) (by decide +kernel))))
/-- the tables' words and the three more -/
theorem hts_sel2 {args : Array Value} {s : State} (hts : ∀ w ∈ lw_tbl, w.before args s = true) : ∀ w ∈ lw_sel2 ++ lw_tbl, w.before args s = true := by
  intro w hw
  rcases List.mem_append.mp hw with h | h
  · simp only [lw_sel2, List.mem_cons, List.not_mem_nil, or_false] at h
    rcases h with rfl | rfl | rfl
    · exact sel_priv (C := R_SB) (y := y_AB_ensureCapacityInternal) (y0 := y_AB_isLatin1) (n := 4) (by decide) (hts _ n_sbi) (hts _ n_pr_ensureCapacityInternal) (hts _ n_in_ensureCapacityInternal) rfl (hts _ n_il0) (hts _ n_il1)
    · exact sel_priv (C := R_SB) (y := y_AB_newCapacity) (y0 := y_AB_isLatin1) (n := 4) (by decide) (hts _ n_sbi) (hts _ n_pr_newCapacity) (hts _ n_in_newCapacity) rfl (hts _ n_il0) (hts _ n_il1)
    · exact sel_priv (C := R_SB) (y := y_AB_inflate) (y0 := y_AB_isLatin1) (n := 4) (by decide) (hts _ n_sbi) (hts _ n_pr_inflate) (hts _ n_in_inflate) rfl (hts _ n_il0) (hts _ n_il1)
  · exact hts w h
theorem kn_all {args : Array Value} {s : State} (htb : ∀ w ∈ TBL, w.before args s = true) : ∀ c : Nat, ∃ (cC : ClassId) (iS : Nat → Nat), ∀ q, vwCl[c]? = some q → u_Kn s q.1 q.2.1 q.2.2 cC iS
  | 0 => by
    obtain ⟨a, b, h⟩ := u_known htb in_PS (htb _ m_30)
    exact ⟨a, b, fun q hq => by cases hq; exact h⟩
  | 1 => by
    obtain ⟨a, b, h⟩ := u_known htb in_CU (htb _ m_137)
    exact ⟨a, b, fun q hq => by cases hq; exact h⟩
  | 2 => by
    obtain ⟨a, b, h⟩ := u_known htb in_JR (htb _ m_156)
    exact ⟨a, b, fun q hq => by cases hq; exact h⟩
  | 3 => by
    obtain ⟨a, b, h⟩ := u_known htb in_VA (htb _ m_370)
    exact ⟨a, b, fun q hq => by cases hq; exact h⟩
  | 4 => by
    obtain ⟨a, b, h⟩ := u_known htb in_OP (htb _ m_725)
    exact ⟨a, b, fun q hq => by cases hq; exact h⟩
  | 5 => by
    obtain ⟨a, b, h⟩ := u_known htb in_PT (htb _ m_614)
    exact ⟨a, b, fun q hq => by cases hq; exact h⟩
  | 6 => by
    obtain ⟨a, b, h⟩ := u_known htb in_PA (htb _ m_750)
    exact ⟨a, b, fun q hq => by cases hq; exact h⟩
  | 7 => by
    obtain ⟨a, b, h⟩ := u_known htb in_PR (htb _ m_847)
    exact ⟨a, b, fun q hq => by cases hq; exact h⟩
  | 8 => by
    obtain ⟨a, b, h⟩ := u_known htb in_SC (htb _ m_1056)
    exact ⟨a, b, fun q hq => by cases hq; exact h⟩
  | 9 => by
    obtain ⟨a, b, h⟩ := u_known htb in_SG (htb _ m_873)
    exact ⟨a, b, fun q hq => by cases hq; exact h⟩
  | 10 => by
    obtain ⟨a, b, h⟩ := u_known htb in_SE (htb _ m_893)
    exact ⟨a, b, fun q hq => by cases hq; exact h⟩
  | 11 => by
    obtain ⟨a, b, h⟩ := u_known htb in_TE (htb _ m_969)
    exact ⟨a, b, fun q hq => by cases hq; exact h⟩
  | 12 => by
    obtain ⟨a, b, h⟩ := u_known htb in_MO (htb _ m_1134)
    exact ⟨a, b, fun q hq => by cases hq; exact h⟩
  | 13 => by
    obtain ⟨a, b, h⟩ := u_known htb in_SB (htb _ m_38)
    exact ⟨a, b, fun q hq => by cases hq; exact h⟩
  | 14 => by
    obtain ⟨a, b, h⟩ := u_known htb in_AL (htb _ m_74)
    exact ⟨a, b, fun q hq => by cases hq; exact h⟩
  | 15 => by
    obtain ⟨a, b, h⟩ := u_known htb in_ST (htb _ m_258)
    exact ⟨a, b, fun q hq => by cases hq; exact h⟩
  | n + 16 => ⟨0, fun _ => 0, fun q hq => by simp [vwCl] at hq⟩
/-- one constant for each text -/
def TMs : List Term := [.string R_VA 23, .string R_CU 76, .string R_CU 55, .string R_CU 57, .string R_CU 59, .string R_OP 52, .string R_OP 77, .string R_OP 83, .string R_OP 85, .string R_OP 87, .string R_OP 89, .string R_OP 91, .string R_OP 62, .string R_OP 68, .string R_OP 72, .string R_PA 130]
def gvF : List Cond := flatC (Jvm.Cond.and given_1 narrow_1)
set_option maxRecDepth 100000 in
theorem gv_ex : ∀ i, i < 16 → Cond.exactly (TMs.getD i (.int 0)) "java/lang/String" ∈ gvF := by decide +kernel
set_option maxRecDepth 100000 in
theorem gv_co : ∀ i, i < 16 → Cond.eq (.field (TMs.getD i (.int 0)) "java/lang/String" "coder" "B") (.int 0) ∈ gvF := by decide +kernel
set_option maxRecDepth 100000 in
theorem gv_ar : ∀ i, i < 16 → Cond.arrayOf (.field (TMs.getD i (.int 0)) "java/lang/String" "value" "[B") .byte ∈ gvF := by decide +kernel
set_option maxRecDepth 100000 in
theorem gv_le : ∀ i, i < 16 → Cond.eq (.length (.field (TMs.getD i (.int 0)) "java/lang/String" "value" "[B")) (.int (Int32.ofNat (LLen.getD i 0))) ∈ gvF := by decide +kernel
set_option maxRecDepth 100000 in
theorem gv_el : ∀ i, i < 16 → ∀ j, j < LLen.getD i 0 → Cond.eq (.elem (.field (TMs.getD i (.int 0)) "java/lang/String" "value" "[B") (.int (Int32.ofNat j))) (.int ((LByt.getD i []).getD j 0)) ∈ gvF := by decide +kernel
set_option maxRecDepth 100000 in
theorem gv_ne0 : ∀ j, j < 16 → 0 < j → Cond.not (Cond.eq (TMs.getD 0 (.int 0)) (TMs.getD j (.int 0))) ∈ gvF := by decide +kernel
set_option maxRecDepth 100000 in
theorem gv_ne1 : ∀ j, j < 16 → 1 < j → Cond.not (Cond.eq (TMs.getD 1 (.int 0)) (TMs.getD j (.int 0))) ∈ gvF := by decide +kernel
set_option maxRecDepth 100000 in
theorem gv_ne2 : ∀ j, j < 16 → 2 < j → Cond.not (Cond.eq (TMs.getD 2 (.int 0)) (TMs.getD j (.int 0))) ∈ gvF := by decide +kernel
set_option maxRecDepth 100000 in
theorem gv_ne3 : ∀ j, j < 16 → 3 < j → Cond.not (Cond.eq (TMs.getD 3 (.int 0)) (TMs.getD j (.int 0))) ∈ gvF := by decide +kernel
set_option maxRecDepth 100000 in
theorem gv_ne4 : ∀ j, j < 16 → 4 < j → Cond.not (Cond.eq (TMs.getD 4 (.int 0)) (TMs.getD j (.int 0))) ∈ gvF := by decide +kernel
set_option maxRecDepth 100000 in
theorem gv_ne5 : ∀ j, j < 16 → 5 < j → Cond.not (Cond.eq (TMs.getD 5 (.int 0)) (TMs.getD j (.int 0))) ∈ gvF := by decide +kernel
set_option maxRecDepth 100000 in
theorem gv_ne6 : ∀ j, j < 16 → 6 < j → Cond.not (Cond.eq (TMs.getD 6 (.int 0)) (TMs.getD j (.int 0))) ∈ gvF := by decide +kernel
set_option maxRecDepth 100000 in
theorem gv_ne7 : ∀ j, j < 16 → 7 < j → Cond.not (Cond.eq (TMs.getD 7 (.int 0)) (TMs.getD j (.int 0))) ∈ gvF := by decide +kernel
set_option maxRecDepth 100000 in
theorem gv_ne8 : ∀ j, j < 16 → 8 < j → Cond.not (Cond.eq (TMs.getD 8 (.int 0)) (TMs.getD j (.int 0))) ∈ gvF := by decide +kernel
set_option maxRecDepth 100000 in
theorem gv_ne9 : ∀ j, j < 16 → 9 < j → Cond.not (Cond.eq (TMs.getD 9 (.int 0)) (TMs.getD j (.int 0))) ∈ gvF := by decide +kernel
set_option maxRecDepth 100000 in
theorem gv_ne10 : ∀ j, j < 16 → 10 < j → Cond.not (Cond.eq (TMs.getD 10 (.int 0)) (TMs.getD j (.int 0))) ∈ gvF := by decide +kernel
set_option maxRecDepth 100000 in
theorem gv_ne11 : ∀ j, j < 16 → 11 < j → Cond.not (Cond.eq (TMs.getD 11 (.int 0)) (TMs.getD j (.int 0))) ∈ gvF := by decide +kernel
set_option maxRecDepth 100000 in
theorem gv_ne12 : ∀ j, j < 16 → 12 < j → Cond.not (Cond.eq (TMs.getD 12 (.int 0)) (TMs.getD j (.int 0))) ∈ gvF := by decide +kernel
set_option maxRecDepth 100000 in
theorem gv_ne13 : ∀ j, j < 16 → 13 < j → Cond.not (Cond.eq (TMs.getD 13 (.int 0)) (TMs.getD j (.int 0))) ∈ gvF := by decide +kernel
set_option maxRecDepth 100000 in
theorem gv_ne14 : ∀ j, j < 16 → 14 < j → Cond.not (Cond.eq (TMs.getD 14 (.int 0)) (TMs.getD j (.int 0))) ∈ gvF := by decide +kernel
theorem gv_ne : ∀ i, i < 16 → ∀ j, j < 16 → i < j → Cond.not (Cond.eq (TMs.getD i (.int 0)) (TMs.getD j (.int 0))) ∈ gvF := by
  intro i hi j hj hij
  rcases (show i = 0 ∨ i = 1 ∨ i = 2 ∨ i = 3 ∨ i = 4 ∨ i = 5 ∨ i = 6 ∨ i = 7 ∨ i = 8 ∨ i = 9 ∨ i = 10 ∨ i = 11 ∨ i = 12 ∨ i = 13 ∨ i = 14 by omega) with rfl | rfl | rfl | rfl | rfl | rfl | rfl | rfl | rfl | rfl | rfl | rfl | rfl | rfl | rfl
  · exact gv_ne0 j hj hij
  · exact gv_ne1 j hj hij
  · exact gv_ne2 j hj hij
  · exact gv_ne3 j hj hij
  · exact gv_ne4 j hj hij
  · exact gv_ne5 j hj hij
  · exact gv_ne6 j hj hij
  · exact gv_ne7 j hj hij
  · exact gv_ne8 j hj hij
  · exact gv_ne9 j hj hij
  · exact gv_ne10 j hj hij
  · exact gv_ne11 j hj hij
  · exact gv_ne12 j hj hij
  · exact gv_ne13 j hj hij
  · exact gv_ne14 j hj hij
theorem vk_S.put {len : List Nat} {byt : List (List Int32)} {k v : Nat → Nat} {A : Nat → Prop} {U : State} {H : Heap} (h : vk_S 16 len byt k v A U H) (mi : Nat) : vk_S 16 len byt (fun i => if i = 100 then mi else k i) v A U H := by
  have e : ∀ i, i < 16 → (if i = 100 then mi else k i) = k i := fun i hi => if_neg (by omega)
  refine ⟨fun i hi => ?_, fun i j hi hj he => h.2 i j hi hj ((e i hi).symm.trans (Eq.trans he (e j hj)))⟩
  have h9 := h.1 i hi
  rw [← e i hi] at h9
  exact h9
theorem ao_K {D : va_G} {cl : List vw_C} {tys : List (ClassId × FieldType)} {s : State} {C : String} (h : va_AO C s) (hK : va_K D cl tys s) : ∃ cA : ClassId, va_K D cl ((cA, .object C) :: tys) s := by
  obtain ⟨comp, c, k, h1, h2, h3, h4, h5⟩ := Cond.arrayOver_spec h
  refine ⟨c, hK.1, fun i q hq => ?_⟩
  cases i with
  | zero =>
    cases hq
    exact ⟨fun N z => ⟨(fun k h => by cases h), k, h3, comp, h4⟩, k, comp, h3, h4, h1, h5⟩
  | succ i => exact hK.2 i q hq
set_option maxHeartbeats 1000000 in
set_option maxRecDepth 100000 in
theorem start_env {b : Nat} {s : State} (hts : ∀ w ∈ lw_tbl, w.before #[Value.ref b] s = true) (hgv : (Jvm.Cond.and given_1 narrow_1).before #[Value.ref b] s = true) : ∃ (em : Nat) (aK aV : Nat → Nat), EX em aK aV (fun q => s.heap.size ≤ q) s s.heap := by
  have hs : ∀ c ∈ gvF, c.before #[Value.ref b] s = true := flat_of_before _ hgv
  have hts2 := hts_sel2 hts
  have hA : ∀ a : Nat, a < s.heap.size → ¬ (fun q => s.heap.size ≤ q) a := fun a h h2 => absurd h (Nat.not_lt.mpr h2)
  have h0 : (Cond.arrayOf (.static "java/util/ArrayList" "DEFAULTCAPACITY_EMPTY_ELEMENTDATA" "[Ljava/lang/Object;") (.object "java/lang/Object")).before #[Value.ref b] s = true := hs _ (by decide +kernel)
  have h1 : (Cond.eq (.length (.static "java/util/ArrayList" "DEFAULTCAPACITY_EMPTY_ELEMENTDATA" "[Ljava/lang/Object;")) (.int 0)).before #[Value.ref b] s = true := hs _ (by decide +kernel)
  obtain ⟨em, hem, hT⟩ := va_Tof (N := 0) (f := fun _ => .null) (A := fun q => s.heap.size ≤ q) (by decide) h0 (va_eqt h1) (fun j hj => absurd hj (Nat.not_lt_zero j)) hA
  obtain ⟨mi, hmi⟩ := va_Mi.of (C := "[Ljava/lang/Object;") (hs _ (by decide +kernel))
  obtain ⟨kK, aV, hS, hk0⟩ := vk_Sof (args := #[Value.ref b]) (s := s) (N := 16) (tm := fun i => TMs.getD i (.int 0)) (len := LLen) (byt := LByt) (A := fun q => s.heap.size ≤ q)
    (by decide)
    (fun i hi => hs _ (gv_ex i hi))
    (fun i hi => hs _ (gv_co i hi))
    (fun i hi => hs _ (gv_ar i hi))
    (fun i hi => hs _ (gv_le i hi))
    (fun i hi j hj => hs _ (gv_el i hi j hj))
    (fun i j hi hj hij => by
      rcases Nat.lt_or_ge i j with h | h
      · exact Or.inl (hs _ (gv_ne i hi j hj h))
      · exact Or.inr (hs _ (gv_ne j hj i hi (by omega)))) hA
  have hk : ∀ i, i < 16 → (TMs.getD i (.int 0)).eval #[Value.ref b] s none [] s = some (Value.ref ((fun i => if i = 100 then mi else kK i) i)) := fun i hi => by
    show _ = some (Value.ref (if i = 100 then mi else kK i))
    rw [if_neg (by omega)]
    exact hk0 i hi
  refine ⟨em, (fun i => if i = 100 then mi else kK i), aV, ?_, va_AO.of (hts _ n_overV), ?_, ?_, ?_, hS.put mi, ?_, va_AO.of (hts _ n_overO), hmi, hT⟩
  · intro w hw
    unfold NWs at hw
    simp only [List.mem_cons, List.not_mem_nil, or_false] at hw
    rcases hw with rfl | rfl | rfl | rfl | rfl | rfl | rfl | rfl | rfl | rfl | rfl | rfl | rfl | rfl | rfl | rfl | rfl | rfl | rfl | rfl | rfl | rfl | rfl | rfl | rfl | rfl | rfl | rfl | rfl | rfl | rfl | rfl | rfl
    · exact va_Nw.of rfl (hts _ n_nw0)
    · exact va_Nw.of rfl (hts _ n_nw1)
    · exact va_Nw.of rfl (hts _ n_nw2)
    · exact va_Nw.of rfl (hts _ n_nw3)
    · exact va_Nw.of rfl (hts _ n_nw4)
    · exact va_Nw.of rfl (hts _ n_nw5)
    · exact va_Nw.of rfl (hts _ n_nw6)
    · exact va_Nw.of rfl (hts _ n_nw7)
    · exact va_Nw.of rfl (hts _ n_nw8)
    · exact va_Nw.of rfl (hts _ n_nw9)
    · exact va_Nw.of rfl (hts _ n_nw10)
    · exact va_Nw.of rfl (hts _ n_nw11)
    · exact va_Nw.of rfl (hts _ n_nw12)
    · exact va_Nw.of rfl (hts _ n_nw13)
    · exact va_Nw.of rfl (hts _ n_nw14)
    · exact va_Nw.of rfl (hts _ n_nw15)
    · exact va_Nw.of rfl (hts _ n_nw16)
    · exact va_Nw.of rfl (hts _ n_nw17)
    · exact va_Nw.of rfl (hts _ n_nw18)
    · exact va_Nw.of rfl (hts _ n_nw19)
    · exact va_Nw.of rfl (hts _ n_nw20)
    · exact va_Nw.of rfl (hts _ n_nw21)
    · exact va_Nw.of rfl (hts _ n_nw22)
    · exact va_Nw.of rfl (hts _ n_nw23)
    · exact va_Nw.of rfl (hts _ n_nw24)
    · exact va_Nw.of rfl (hts _ n_nw25)
    · exact va_Nw.of rfl (hts _ n_nw26)
    · exact va_Nw.of rfl (hts _ n_nw27)
    · exact va_Nw.of rfl (hts _ n_nw28)
    · exact va_Nw.of rfl (hts _ n_nw29)
    · exact va_Nw.of rfl (hts _ n_nw30)
    · exact va_Nw.of rfl (hts _ n_nw31)
    · exact va_Nw.of rfl (hts _ n_nw32)
  · exact va_Zof (hts _ n_compact) (hts2 _ (tb_in m_4)) (va_eqi (hs _ (by decide +kernel))) hA
  · exact va_Zref (hts _ n_empty) (hts2 _ (tb_in m_8)) hem hA
  · exact va_Zqof (hts _ n_form) (hts2 _ (tb_in m_17)) (hs _ (by decide +kernel)) hA
  · intro q hq
    unfold LRs at hq
    simp only [List.mem_cons, List.not_mem_nil, or_false] at hq
    rcases hq with rfl | rfl | rfl | rfl | rfl | rfl | rfl | rfl | rfl | rfl | rfl | rfl | rfl | rfl | rfl | rfl | rfl | rfl | rfl | rfl | rfl
    · exact vk_R.of (hts _ n_lr0) (hk 0 (by decide))
    · exact vk_R.of (hts _ n_lr1) (hk 1 (by decide))
    · exact vk_R.of (hts _ n_lr2) (hk 2 (by decide))
    · exact vk_R.of (hts _ n_lr3) (hk 3 (by decide))
    · exact vk_R.of (hts _ n_lr4) (hk 4 (by decide))
    · exact vk_R.of (hts _ n_lr5) (va_eqR (hs (Cond.eq (.string R_VA 23) (.string R_JR 66)) (by decide +kernel)) (hk 0 (by decide)))
    · exact vk_R.of (hts _ n_lr6) (hk 5 (by decide))
    · exact vk_R.of (hts _ n_lr7) (hk 6 (by decide))
    · exact vk_R.of (hts _ n_lr8) (hk 7 (by decide))
    · exact vk_R.of (hts _ n_lr9) (hk 8 (by decide))
    · exact vk_R.of (hts _ n_lr10) (hk 9 (by decide))
    · exact vk_R.of (hts _ n_lr11) (hk 10 (by decide))
    · exact vk_R.of (hts _ n_lr12) (hk 11 (by decide))
    · exact vk_R.of (hts _ n_lr13) (hk 12 (by decide))
    · exact vk_R.of (hts _ n_lr14) (va_eqR (hs (Cond.eq (.string R_VA 23) (.string R_PT 35)) (by decide +kernel)) (hk 0 (by decide)))
    · exact vk_R.of (hts _ n_lr15) (va_eqR (hs (Cond.eq (.string R_VA 23) (.string R_LT 151)) (by decide +kernel)) (hk 0 (by decide)))
    · exact vk_R.of (hts _ n_lr16) (va_eqR (hs (Cond.eq (.string R_VA 23) (.string R_UT 295)) (by decide +kernel)) (hk 0 (by decide)))
    · exact vk_R.of (hts _ n_lr17) (hk 13 (by decide))
    · exact vk_R.of (hts _ n_lr18) (hk 14 (by decide))
    · exact vk_R.of (hts _ n_lr19) (hk 15 (by decide))
    · exact vk_R.of (hts _ n_lr20) (va_eqR (hs (Cond.eq (.string R_VA 23) (.string R_SE 30)) (by decide +kernel)) (hk 0 (by decide)))
