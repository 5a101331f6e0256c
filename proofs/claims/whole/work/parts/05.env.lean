/-- words that are no good words of the table: nest mates' links, casts, a declaration -/
def NWs : List Cond := [.fieldLinkNest R_PS 59 "PatchStore$JsonReader" "fault" "I" "PatchStore",
  .castable "[B" "java/lang/Cloneable",
  .methodLinkNest R_CU 48 y_PS_isDigit "PatchStore",
  .methodLinkNest R_PT 78 y_PS_isDigit "PatchStore",
  .fieldLinkNest R_PS 84 "PatchStore$Patcher" "document" "LPatchStore$Value;" "PatchStore",
  .methodLinkNest R_PA 80 y_VA_same "PatchStore",
  .fieldLinkNest R_PR 59 "PatchStore$Segment" "deep" "Z" "PatchStore",
  .fieldLinkNest R_PR 52 "PatchStore$Segment" "selectors" "Ljava/util/ArrayList;" "PatchStore",
  .methodLinkNest R_CU 44 y_PS_isLetter "PatchStore",
  .methodLinkNest R_PR 106 y_PS_isDigit "PatchStore",
  .methodLinkNest R_TE 37 y_VA_same "PatchStore",
  .fieldLinkNest R_PS 123 "PatchStore$Scribe" "spelled" "I" "PatchStore",
  .fieldLinkNest R_PS 138 "PatchStore$Scribe" "letter" "I" "PatchStore",
  .methodLinkNest R_PS 119 y_SC_spell "PatchStore",
  .castable "PatchStore$Value" "PatchStore$Value",
  .castable "PatchStore$Operation" "PatchStore$Operation",
  .castable "PatchStore$Segment" "PatchStore$Segment",
  .castable "PatchStore$Selector" "PatchStore$Selector",
  .declares ⟨R_OJ, "getClass", "()Ljava/lang/Class;"⟩,
  .castable "PatchStore" "java/lang/Object",
  .castable "PatchStoreModel" "java/lang/Object",
  .castable "PatchStore$Cursor" "java/lang/Object",
  .castable "PatchStore$JsonReader" "java/lang/Object",
  .castable "java/lang/String" "java/lang/Object",
  .castable "PatchStore$Value" "java/lang/Object",
  .castable "PatchStore$Pointer" "java/lang/Object",
  .castable "PatchStore$Operation" "java/lang/Object",
  .castable "PatchStore$Patcher" "java/lang/Object",
  .castable "PatchStore$PathReader" "java/lang/Object",
  .castable "PatchStore$Segment" "java/lang/Object",
  .castable "PatchStore$Selector" "java/lang/Object",
  .castable "PatchStore$Test" "java/lang/Object",
  .castable "PatchStore$Scribe" "java/lang/Object"]
/-- the text constants: class, entry, text, which of the 16 texts -/
def LRs : List (String × Nat × String × Nat) := [(R_VA, 23, "", 0), (R_CU, 76, "0", 1), (R_CU, 55, "null", 2), (R_CU, 57, "true", 3), (R_CU, 59, "false", 4), (R_JR, 66, "", 0), (R_OP, 52, "op", 5), (R_OP, 77, "add", 6), (R_OP, 83, "remove", 7), (R_OP, 85, "replace", 8), (R_OP, 87, "move", 9), (R_OP, 89, "copy", 10), (R_OP, 91, "test", 11), (R_OP, 62, "path", 12), (R_PT, 35, "", 0), (R_LT, 151, "", 0), (R_UT, 295, "", 0), (R_OP, 68, "from", 13), (R_OP, 72, "value", 14), (R_PA, 130, "-", 15), (R_SE, 30, "", 0)]
def LLen : List Nat := [0, 1, 4, 4, 5, 2, 3, 6, 7, 4, 4, 4, 4, 4, 5, 1]
def LByt : List (List Int32) := [[], [48], [110, 117, 108, 108], [116, 114, 117, 101], [102, 97, 108, 115, 101], [111, 112], [97, 100, 100], [114, 101, 109, 111, 118, 101], [114, 101, 112, 108, 97, 99, 101], [109, 111, 118, 101], [99, 111, 112, 121], [116, 101, 115, 116], [112, 97, 116, 104], [102, 114, 111, 109], [118, 97, 108, 117, 101], [45]]
/-- what stays from the start on: links, array classes, statics, the text constants (cells aK, bytes aV), the class object of Object[] (aK 100) -/
def EX (em : Nat) (aK aV : Nat → Nat) (A : Nat → Prop) (U : State) (H : Heap) : Prop :=
  (∀ w ∈ NWs, va_Nw w U) ∧
  va_AO "PatchStore$Value" U ∧
  va_Z "java/lang/String" "COMPACT_STRINGS" "Z" (.int 1) A U H ∧
  va_Z "java/util/ArrayList" "DEFAULTCAPACITY_EMPTY_ELEMENTDATA" "[Ljava/lang/Object;" (.ref em) A U H ∧
  va_Zq "jdk/internal/util/Preconditions" "SIOOBE_FORMATTER" "Ljava/util/function/BiFunction;" A U H ∧
  vk_S 16 LLen LByt aK aV A U H ∧
  (∀ q ∈ LRs, vk_R q.1 q.2.1 q.2.2.1 (aK q.2.2.2) U) ∧
  va_AO "java/lang/Object" U ∧
  va_Mi "[Ljava/lang/Object;" (aK 100) U ∧
  va_T (.object "java/lang/Object") em 0 (fun _ => .null) A U H
theorem NWs_tab : ∀ w ∈ NWs, w.onTables = true := by decide +kernel
theorem NWs_warm {s U : State} (hW : s.WarmedH U.vm) (h : ∀ w ∈ NWs, va_Nw w s) : ∀ w ∈ NWs, va_Nw w U := by
  have h0 : ∀ (i : Nat) (w : Cond), NWs[i]? = some w → va_Nw w s := fun i w e => h w (List.mem_of_getElem? e)
  intro w hw
  unfold NWs at hw
  simp only [List.mem_cons, List.not_mem_nil, or_false] at hw
  rcases hw with rfl | rfl | rfl | rfl | rfl | rfl | rfl | rfl | rfl | rfl | rfl | rfl | rfl | rfl | rfl | rfl | rfl | rfl | rfl | rfl | rfl | rfl | rfl | rfl | rfl | rfl | rfl | rfl | rfl | rfl | rfl | rfl | rfl
  · exact va_Nw.warmF hW (h0 0 _ rfl)
  · exact va_Nw.warmC hW (h0 1 _ rfl)
  · exact va_Nw.warmM hW (h0 2 _ rfl)
  · exact va_Nw.warmM hW (h0 3 _ rfl)
  · exact va_Nw.warmF hW (h0 4 _ rfl)
  · exact va_Nw.warmM hW (h0 5 _ rfl)
  · exact va_Nw.warmF hW (h0 6 _ rfl)
  · exact va_Nw.warmF hW (h0 7 _ rfl)
  · exact va_Nw.warmM hW (h0 8 _ rfl)
  · exact va_Nw.warmM hW (h0 9 _ rfl)
  · exact va_Nw.warmM hW (h0 10 _ rfl)
  · exact va_Nw.warmF hW (h0 11 _ rfl)
  · exact va_Nw.warmF hW (h0 12 _ rfl)
  · exact va_Nw.warmM hW (h0 13 _ rfl)
  · exact va_Nw.warmC hW (h0 14 _ rfl)
  · exact va_Nw.warmC hW (h0 15 _ rfl)
  · exact va_Nw.warmC hW (h0 16 _ rfl)
  · exact va_Nw.warmC hW (h0 17 _ rfl)
  · exact va_Nw.warmD hW (h0 18 _ rfl)
  · exact va_Nw.warmC hW (h0 19 _ rfl)
  · exact va_Nw.warmC hW (h0 20 _ rfl)
  · exact va_Nw.warmC hW (h0 21 _ rfl)
  · exact va_Nw.warmC hW (h0 22 _ rfl)
  · exact va_Nw.warmC hW (h0 23 _ rfl)
  · exact va_Nw.warmC hW (h0 24 _ rfl)
  · exact va_Nw.warmC hW (h0 25 _ rfl)
  · exact va_Nw.warmC hW (h0 26 _ rfl)
  · exact va_Nw.warmC hW (h0 27 _ rfl)
  · exact va_Nw.warmC hW (h0 28 _ rfl)
  · exact va_Nw.warmC hW (h0 29 _ rfl)
  · exact va_Nw.warmC hW (h0 30 _ rfl)
  · exact va_Nw.warmC hW (h0 31 _ rfl)
  · exact va_Nw.warmC hW (h0 32 _ rfl)
theorem EX.warm {em : Nat} {aK aV : Nat → Nat} {A : Nat → Prop} {s U : State} {H : Heap} (hW : s.WarmedH U.vm) (h : EX em aK aV A s H) : EX em aK aV A U H :=
  ⟨NWs_warm hW h.1, va_AO.moved hW.alike h.2.1, va_Z.moved hW.alike h.2.2.1, va_Z.moved hW.alike h.2.2.2.1, va_Zq.moved hW.alike h.2.2.2.2.1, vk_S.moved hW.alike h.2.2.2.2.2.1, fun q hq => vk_R.warm hW (h.2.2.2.2.2.2.1 q hq), va_AO.moved hW.alike h.2.2.2.2.2.2.2.1, va_Mi.moved hW.alike h.2.2.2.2.2.2.2.2.1, va_T.moved hW.alike h.2.2.2.2.2.2.2.2.2⟩
theorem EX.same {em : Nat} {aK aV : Nat → Nat} {A : Nat → Prop} {U U' : State} {H : Heap} (hv : U'.vm = U.vm) (h : EX em aK aV A U H) : EX em aK aV A U' H := by
  have ha : U.vm.Alike U'.vm := by rw [hv]; exact Vm.Alike.refl _
  exact ⟨fun w hw => va_Nw.same (NWs_tab w hw) hv.symm (h.1 w hw), va_AO.moved ha h.2.1, va_Z.moved ha h.2.2.1, va_Z.moved ha h.2.2.2.1, va_Zq.moved ha h.2.2.2.2.1, vk_S.moved ha h.2.2.2.2.2.1, fun q hq => vk_R.same hv (h.2.2.2.2.2.2.1 q hq), va_AO.moved ha h.2.2.2.2.2.2.2.1, va_Mi.moved ha h.2.2.2.2.2.2.2.2.1, va_T.moved ha h.2.2.2.2.2.2.2.2.2⟩
theorem EX.kept {em : Nat} {aK aV : Nat → Nat} {A : Nat → Prop} {U : State} {H H1 : Heap} (h : EX em aK aV A U H) (hq : ∀ a : Nat, a < H.size → ¬ A a → H1[a]? = H[a]?) : EX em aK aV A U H1 :=
  ⟨h.1, h.2.1, h.2.2.1.kept hq, h.2.2.2.1.kept hq, h.2.2.2.2.1.kept hq, h.2.2.2.2.2.1.kept hq, h.2.2.2.2.2.2.1, h.2.2.2.2.2.2.2.1, h.2.2.2.2.2.2.2.2.1, h.2.2.2.2.2.2.2.2.2.kept hq⟩
theorem EX.narrow {em : Nat} {aK aV : Nat → Nat} {A B : Nat → Prop} {U : State} {H : Heap} (h : EX em aK aV A U H) (hAB : ∀ q, B q → A q) : EX em aK aV B U H :=
  ⟨h.1, h.2.1, h.2.2.1.narrow hAB, h.2.2.2.1.narrow hAB, h.2.2.2.2.1.narrow hAB, h.2.2.2.2.2.1.narrow hAB, h.2.2.2.2.2.2.1, h.2.2.2.2.2.2.2.1, h.2.2.2.2.2.2.2.2.1, h.2.2.2.2.2.2.2.2.2.narrow hAB⟩
theorem EX.nw {em : Nat} {aK aV : Nat → Nat} {A : Nat → Prop} {U : State} {H : Heap} (h : EX em aK aV A U H) : ∀ w ∈ NWs, va_Nw w U := h.1
theorem EX.overV {em : Nat} {aK aV : Nat → Nat} {A : Nat → Prop} {U : State} {H : Heap} (h : EX em aK aV A U H) : va_AO "PatchStore$Value" U := h.2.1
theorem EX.compact {em : Nat} {aK aV : Nat → Nat} {A : Nat → Prop} {U : State} {H : Heap} (h : EX em aK aV A U H) : va_Z "java/lang/String" "COMPACT_STRINGS" "Z" (.int 1) A U H := h.2.2.1
theorem EX.empty {em : Nat} {aK aV : Nat → Nat} {A : Nat → Prop} {U : State} {H : Heap} (h : EX em aK aV A U H) : va_Z "java/util/ArrayList" "DEFAULTCAPACITY_EMPTY_ELEMENTDATA" "[Ljava/lang/Object;" (.ref em) A U H := h.2.2.2.1
theorem EX.form {em : Nat} {aK aV : Nat → Nat} {A : Nat → Prop} {U : State} {H : Heap} (h : EX em aK aV A U H) : va_Zq "jdk/internal/util/Preconditions" "SIOOBE_FORMATTER" "Ljava/util/function/BiFunction;" A U H := h.2.2.2.2.1
theorem EX.lit {em : Nat} {aK aV : Nat → Nat} {A : Nat → Prop} {U : State} {H : Heap} (h : EX em aK aV A U H) : vk_S 16 LLen LByt aK aV A U H := h.2.2.2.2.2.1
theorem EX.ref {em : Nat} {aK aV : Nat → Nat} {A : Nat → Prop} {U : State} {H : Heap} (h : EX em aK aV A U H) : ∀ q ∈ LRs, vk_R q.1 q.2.1 q.2.2.1 (aK q.2.2.2) U := h.2.2.2.2.2.2.1
theorem EX.overO {em : Nat} {aK aV : Nat → Nat} {A : Nat → Prop} {U : State} {H : Heap} (h : EX em aK aV A U H) : va_AO "java/lang/Object" U := h.2.2.2.2.2.2.2.1
theorem EX.mirror {em : Nat} {aK aV : Nat → Nat} {A : Nat → Prop} {U : State} {H : Heap} (h : EX em aK aV A U H) : va_Mi "[Ljava/lang/Object;" (aK 100) U := h.2.2.2.2.2.2.2.2.1
theorem EX.em0 {em : Nat} {aK aV : Nat → Nat} {A : Nat → Prop} {U : State} {H : Heap} (h : EX em aK aV A U H) : va_T (.object "java/lang/Object") em 0 (fun _ => .null) A U H := h.2.2.2.2.2.2.2.2.2
theorem nw_0 {em : Nat} {aK aV : Nat → Nat} {A : Nat → Prop} {U : State} {H : Heap} (h : EX em aK aV A U H) : va_Nw (.fieldLinkNest R_PS 59 "PatchStore$JsonReader" "fault" "I" "PatchStore") U := h.1 _ (List.mem_of_getElem? (i := 0) rfl)
theorem nw_1 {em : Nat} {aK aV : Nat → Nat} {A : Nat → Prop} {U : State} {H : Heap} (h : EX em aK aV A U H) : va_Nw (.castable "[B" "java/lang/Cloneable") U := h.1 _ (List.mem_of_getElem? (i := 1) rfl)
theorem nw_2 {em : Nat} {aK aV : Nat → Nat} {A : Nat → Prop} {U : State} {H : Heap} (h : EX em aK aV A U H) : va_Nw (.methodLinkNest R_CU 48 y_PS_isDigit "PatchStore") U := h.1 _ (List.mem_of_getElem? (i := 2) rfl)
theorem nw_3 {em : Nat} {aK aV : Nat → Nat} {A : Nat → Prop} {U : State} {H : Heap} (h : EX em aK aV A U H) : va_Nw (.methodLinkNest R_PT 78 y_PS_isDigit "PatchStore") U := h.1 _ (List.mem_of_getElem? (i := 3) rfl)
theorem nw_4 {em : Nat} {aK aV : Nat → Nat} {A : Nat → Prop} {U : State} {H : Heap} (h : EX em aK aV A U H) : va_Nw (.fieldLinkNest R_PS 84 "PatchStore$Patcher" "document" "LPatchStore$Value;" "PatchStore") U := h.1 _ (List.mem_of_getElem? (i := 4) rfl)
theorem nw_5 {em : Nat} {aK aV : Nat → Nat} {A : Nat → Prop} {U : State} {H : Heap} (h : EX em aK aV A U H) : va_Nw (.methodLinkNest R_PA 80 y_VA_same "PatchStore") U := h.1 _ (List.mem_of_getElem? (i := 5) rfl)
theorem nw_6 {em : Nat} {aK aV : Nat → Nat} {A : Nat → Prop} {U : State} {H : Heap} (h : EX em aK aV A U H) : va_Nw (.fieldLinkNest R_PR 59 "PatchStore$Segment" "deep" "Z" "PatchStore") U := h.1 _ (List.mem_of_getElem? (i := 6) rfl)
theorem nw_7 {em : Nat} {aK aV : Nat → Nat} {A : Nat → Prop} {U : State} {H : Heap} (h : EX em aK aV A U H) : va_Nw (.fieldLinkNest R_PR 52 "PatchStore$Segment" "selectors" "Ljava/util/ArrayList;" "PatchStore") U := h.1 _ (List.mem_of_getElem? (i := 7) rfl)
theorem nw_8 {em : Nat} {aK aV : Nat → Nat} {A : Nat → Prop} {U : State} {H : Heap} (h : EX em aK aV A U H) : va_Nw (.methodLinkNest R_CU 44 y_PS_isLetter "PatchStore") U := h.1 _ (List.mem_of_getElem? (i := 8) rfl)
theorem nw_9 {em : Nat} {aK aV : Nat → Nat} {A : Nat → Prop} {U : State} {H : Heap} (h : EX em aK aV A U H) : va_Nw (.methodLinkNest R_PR 106 y_PS_isDigit "PatchStore") U := h.1 _ (List.mem_of_getElem? (i := 9) rfl)
theorem nw_10 {em : Nat} {aK aV : Nat → Nat} {A : Nat → Prop} {U : State} {H : Heap} (h : EX em aK aV A U H) : va_Nw (.methodLinkNest R_TE 37 y_VA_same "PatchStore") U := h.1 _ (List.mem_of_getElem? (i := 10) rfl)
theorem nw_11 {em : Nat} {aK aV : Nat → Nat} {A : Nat → Prop} {U : State} {H : Heap} (h : EX em aK aV A U H) : va_Nw (.fieldLinkNest R_PS 123 "PatchStore$Scribe" "spelled" "I" "PatchStore") U := h.1 _ (List.mem_of_getElem? (i := 11) rfl)
theorem nw_12 {em : Nat} {aK aV : Nat → Nat} {A : Nat → Prop} {U : State} {H : Heap} (h : EX em aK aV A U H) : va_Nw (.fieldLinkNest R_PS 138 "PatchStore$Scribe" "letter" "I" "PatchStore") U := h.1 _ (List.mem_of_getElem? (i := 12) rfl)
theorem nw_13 {em : Nat} {aK aV : Nat → Nat} {A : Nat → Prop} {U : State} {H : Heap} (h : EX em aK aV A U H) : va_Nw (.methodLinkNest R_PS 119 y_SC_spell "PatchStore") U := h.1 _ (List.mem_of_getElem? (i := 13) rfl)
theorem nw_14 {em : Nat} {aK aV : Nat → Nat} {A : Nat → Prop} {U : State} {H : Heap} (h : EX em aK aV A U H) : va_Nw (.castable "PatchStore$Value" "PatchStore$Value") U := h.1 _ (List.mem_of_getElem? (i := 14) rfl)
theorem nw_15 {em : Nat} {aK aV : Nat → Nat} {A : Nat → Prop} {U : State} {H : Heap} (h : EX em aK aV A U H) : va_Nw (.castable "PatchStore$Operation" "PatchStore$Operation") U := h.1 _ (List.mem_of_getElem? (i := 15) rfl)
theorem nw_16 {em : Nat} {aK aV : Nat → Nat} {A : Nat → Prop} {U : State} {H : Heap} (h : EX em aK aV A U H) : va_Nw (.castable "PatchStore$Segment" "PatchStore$Segment") U := h.1 _ (List.mem_of_getElem? (i := 16) rfl)
theorem nw_17 {em : Nat} {aK aV : Nat → Nat} {A : Nat → Prop} {U : State} {H : Heap} (h : EX em aK aV A U H) : va_Nw (.castable "PatchStore$Selector" "PatchStore$Selector") U := h.1 _ (List.mem_of_getElem? (i := 17) rfl)
theorem nw_18 {em : Nat} {aK aV : Nat → Nat} {A : Nat → Prop} {U : State} {H : Heap} (h : EX em aK aV A U H) : va_Nw (.declares ⟨R_OJ, "getClass", "()Ljava/lang/Class;"⟩) U := h.1 _ (List.mem_of_getElem? (i := 18) rfl)
theorem nw_19 {em : Nat} {aK aV : Nat → Nat} {A : Nat → Prop} {U : State} {H : Heap} (h : EX em aK aV A U H) : va_Nw (.castable "PatchStore" "java/lang/Object") U := h.1 _ (List.mem_of_getElem? (i := 19) rfl)
theorem nw_20 {em : Nat} {aK aV : Nat → Nat} {A : Nat → Prop} {U : State} {H : Heap} (h : EX em aK aV A U H) : va_Nw (.castable "PatchStoreModel" "java/lang/Object") U := h.1 _ (List.mem_of_getElem? (i := 20) rfl)
theorem nw_21 {em : Nat} {aK aV : Nat → Nat} {A : Nat → Prop} {U : State} {H : Heap} (h : EX em aK aV A U H) : va_Nw (.castable "PatchStore$Cursor" "java/lang/Object") U := h.1 _ (List.mem_of_getElem? (i := 21) rfl)
theorem nw_22 {em : Nat} {aK aV : Nat → Nat} {A : Nat → Prop} {U : State} {H : Heap} (h : EX em aK aV A U H) : va_Nw (.castable "PatchStore$JsonReader" "java/lang/Object") U := h.1 _ (List.mem_of_getElem? (i := 22) rfl)
theorem nw_23 {em : Nat} {aK aV : Nat → Nat} {A : Nat → Prop} {U : State} {H : Heap} (h : EX em aK aV A U H) : va_Nw (.castable "java/lang/String" "java/lang/Object") U := h.1 _ (List.mem_of_getElem? (i := 23) rfl)
theorem nw_24 {em : Nat} {aK aV : Nat → Nat} {A : Nat → Prop} {U : State} {H : Heap} (h : EX em aK aV A U H) : va_Nw (.castable "PatchStore$Value" "java/lang/Object") U := h.1 _ (List.mem_of_getElem? (i := 24) rfl)
theorem nw_25 {em : Nat} {aK aV : Nat → Nat} {A : Nat → Prop} {U : State} {H : Heap} (h : EX em aK aV A U H) : va_Nw (.castable "PatchStore$Pointer" "java/lang/Object") U := h.1 _ (List.mem_of_getElem? (i := 25) rfl)
theorem nw_26 {em : Nat} {aK aV : Nat → Nat} {A : Nat → Prop} {U : State} {H : Heap} (h : EX em aK aV A U H) : va_Nw (.castable "PatchStore$Operation" "java/lang/Object") U := h.1 _ (List.mem_of_getElem? (i := 26) rfl)
theorem nw_27 {em : Nat} {aK aV : Nat → Nat} {A : Nat → Prop} {U : State} {H : Heap} (h : EX em aK aV A U H) : va_Nw (.castable "PatchStore$Patcher" "java/lang/Object") U := h.1 _ (List.mem_of_getElem? (i := 27) rfl)
theorem nw_28 {em : Nat} {aK aV : Nat → Nat} {A : Nat → Prop} {U : State} {H : Heap} (h : EX em aK aV A U H) : va_Nw (.castable "PatchStore$PathReader" "java/lang/Object") U := h.1 _ (List.mem_of_getElem? (i := 28) rfl)
theorem nw_29 {em : Nat} {aK aV : Nat → Nat} {A : Nat → Prop} {U : State} {H : Heap} (h : EX em aK aV A U H) : va_Nw (.castable "PatchStore$Segment" "java/lang/Object") U := h.1 _ (List.mem_of_getElem? (i := 29) rfl)
theorem nw_30 {em : Nat} {aK aV : Nat → Nat} {A : Nat → Prop} {U : State} {H : Heap} (h : EX em aK aV A U H) : va_Nw (.castable "PatchStore$Selector" "java/lang/Object") U := h.1 _ (List.mem_of_getElem? (i := 30) rfl)
theorem nw_31 {em : Nat} {aK aV : Nat → Nat} {A : Nat → Prop} {U : State} {H : Heap} (h : EX em aK aV A U H) : va_Nw (.castable "PatchStore$Test" "java/lang/Object") U := h.1 _ (List.mem_of_getElem? (i := 31) rfl)
theorem nw_32 {em : Nat} {aK aV : Nat → Nat} {A : Nat → Prop} {U : State} {H : Heap} (h : EX em aK aV A U H) : va_Nw (.castable "PatchStore$Scribe" "java/lang/Object") U := h.1 _ (List.mem_of_getElem? (i := 32) rfl)
theorem lr_0 {em : Nat} {aK aV : Nat → Nat} {A : Nat → Prop} {U : State} {H : Heap} (h : EX em aK aV A U H) : vk_R R_VA 23 "" (aK 0) U := h.ref (R_VA, 23, "", 0) (List.mem_of_getElem? (i := 0) rfl)
theorem lr_1 {em : Nat} {aK aV : Nat → Nat} {A : Nat → Prop} {U : State} {H : Heap} (h : EX em aK aV A U H) : vk_R R_CU 76 "0" (aK 1) U := h.ref (R_CU, 76, "0", 1) (List.mem_of_getElem? (i := 1) rfl)
theorem lr_2 {em : Nat} {aK aV : Nat → Nat} {A : Nat → Prop} {U : State} {H : Heap} (h : EX em aK aV A U H) : vk_R R_CU 55 "null" (aK 2) U := h.ref (R_CU, 55, "null", 2) (List.mem_of_getElem? (i := 2) rfl)
theorem lr_3 {em : Nat} {aK aV : Nat → Nat} {A : Nat → Prop} {U : State} {H : Heap} (h : EX em aK aV A U H) : vk_R R_CU 57 "true" (aK 3) U := h.ref (R_CU, 57, "true", 3) (List.mem_of_getElem? (i := 3) rfl)
theorem lr_4 {em : Nat} {aK aV : Nat → Nat} {A : Nat → Prop} {U : State} {H : Heap} (h : EX em aK aV A U H) : vk_R R_CU 59 "false" (aK 4) U := h.ref (R_CU, 59, "false", 4) (List.mem_of_getElem? (i := 4) rfl)
theorem lr_5 {em : Nat} {aK aV : Nat → Nat} {A : Nat → Prop} {U : State} {H : Heap} (h : EX em aK aV A U H) : vk_R R_JR 66 "" (aK 0) U := h.ref (R_JR, 66, "", 0) (List.mem_of_getElem? (i := 5) rfl)
theorem lr_6 {em : Nat} {aK aV : Nat → Nat} {A : Nat → Prop} {U : State} {H : Heap} (h : EX em aK aV A U H) : vk_R R_OP 52 "op" (aK 5) U := h.ref (R_OP, 52, "op", 5) (List.mem_of_getElem? (i := 6) rfl)
theorem lr_7 {em : Nat} {aK aV : Nat → Nat} {A : Nat → Prop} {U : State} {H : Heap} (h : EX em aK aV A U H) : vk_R R_OP 77 "add" (aK 6) U := h.ref (R_OP, 77, "add", 6) (List.mem_of_getElem? (i := 7) rfl)
theorem lr_8 {em : Nat} {aK aV : Nat → Nat} {A : Nat → Prop} {U : State} {H : Heap} (h : EX em aK aV A U H) : vk_R R_OP 83 "remove" (aK 7) U := h.ref (R_OP, 83, "remove", 7) (List.mem_of_getElem? (i := 8) rfl)
theorem lr_9 {em : Nat} {aK aV : Nat → Nat} {A : Nat → Prop} {U : State} {H : Heap} (h : EX em aK aV A U H) : vk_R R_OP 85 "replace" (aK 8) U := h.ref (R_OP, 85, "replace", 8) (List.mem_of_getElem? (i := 9) rfl)
theorem lr_10 {em : Nat} {aK aV : Nat → Nat} {A : Nat → Prop} {U : State} {H : Heap} (h : EX em aK aV A U H) : vk_R R_OP 87 "move" (aK 9) U := h.ref (R_OP, 87, "move", 9) (List.mem_of_getElem? (i := 10) rfl)
theorem lr_11 {em : Nat} {aK aV : Nat → Nat} {A : Nat → Prop} {U : State} {H : Heap} (h : EX em aK aV A U H) : vk_R R_OP 89 "copy" (aK 10) U := h.ref (R_OP, 89, "copy", 10) (List.mem_of_getElem? (i := 11) rfl)
theorem lr_12 {em : Nat} {aK aV : Nat → Nat} {A : Nat → Prop} {U : State} {H : Heap} (h : EX em aK aV A U H) : vk_R R_OP 91 "test" (aK 11) U := h.ref (R_OP, 91, "test", 11) (List.mem_of_getElem? (i := 12) rfl)
theorem lr_13 {em : Nat} {aK aV : Nat → Nat} {A : Nat → Prop} {U : State} {H : Heap} (h : EX em aK aV A U H) : vk_R R_OP 62 "path" (aK 12) U := h.ref (R_OP, 62, "path", 12) (List.mem_of_getElem? (i := 13) rfl)
theorem lr_14 {em : Nat} {aK aV : Nat → Nat} {A : Nat → Prop} {U : State} {H : Heap} (h : EX em aK aV A U H) : vk_R R_PT 35 "" (aK 0) U := h.ref (R_PT, 35, "", 0) (List.mem_of_getElem? (i := 14) rfl)
theorem lr_15 {em : Nat} {aK aV : Nat → Nat} {A : Nat → Prop} {U : State} {H : Heap} (h : EX em aK aV A U H) : vk_R R_LT 151 "" (aK 0) U := h.ref (R_LT, 151, "", 0) (List.mem_of_getElem? (i := 15) rfl)
theorem lr_16 {em : Nat} {aK aV : Nat → Nat} {A : Nat → Prop} {U : State} {H : Heap} (h : EX em aK aV A U H) : vk_R R_UT 295 "" (aK 0) U := h.ref (R_UT, 295, "", 0) (List.mem_of_getElem? (i := 16) rfl)
theorem lr_17 {em : Nat} {aK aV : Nat → Nat} {A : Nat → Prop} {U : State} {H : Heap} (h : EX em aK aV A U H) : vk_R R_OP 68 "from" (aK 13) U := h.ref (R_OP, 68, "from", 13) (List.mem_of_getElem? (i := 17) rfl)
theorem lr_18 {em : Nat} {aK aV : Nat → Nat} {A : Nat → Prop} {U : State} {H : Heap} (h : EX em aK aV A U H) : vk_R R_OP 72 "value" (aK 14) U := h.ref (R_OP, 72, "value", 14) (List.mem_of_getElem? (i := 18) rfl)
theorem lr_19 {em : Nat} {aK aV : Nat → Nat} {A : Nat → Prop} {U : State} {H : Heap} (h : EX em aK aV A U H) : vk_R R_PA 130 "-" (aK 15) U := h.ref (R_PA, 130, "-", 15) (List.mem_of_getElem? (i := 19) rfl)
theorem lr_20 {em : Nat} {aK aV : Nat → Nat} {A : Nat → Prop} {U : State} {H : Heap} (h : EX em aK aV A U H) : vk_R R_SE 30 "" (aK 0) U := h.ref (R_SE, 30, "", 0) (List.mem_of_getElem? (i := 20) rfl)
