/-- what stays from the start on: a nest mate's link, an array class, the statics, the text constant "false" (its cell aK, its bytes aV) -/
def EX (em : Nat) (aK aV : Nat → Nat) (A : Nat → Prop) (U : State) (H : Heap) : Prop :=
  va_Nw (.fieldLinkNest R_PS 59 "PatchStore$JsonReader" "fault" "I" "PatchStore") U ∧
  va_AO "PatchStore$Value" U ∧
  va_Z "java/lang/String" "COMPACT_STRINGS" "Z" (.int 1) A U H ∧
  va_Z "java/util/ArrayList" "DEFAULTCAPACITY_EMPTY_ELEMENTDATA" "[Ljava/lang/Object;" (.ref em) A U H ∧
  va_Zq "jdk/internal/util/Preconditions" "SIOOBE_FORMATTER" "Ljava/util/function/BiFunction;" A U H ∧
  vk_S 1 [5] [[102, 97, 108, 115, 101]] aK aV A U H ∧
  vk_R "PatchStore$Cursor" 59 "false" (aK 0) U
theorem EX.warm {em : Nat} {aK aV : Nat → Nat} {A : Nat → Prop} {s U : State} {H : Heap} (hW : s.WarmedH U.vm) (h : EX em aK aV A s H) : EX em aK aV A U H :=
  ⟨va_Nw.warmF hW h.1, va_AO.moved hW.alike h.2.1, va_Z.moved hW.alike h.2.2.1, va_Z.moved hW.alike h.2.2.2.1, va_Zq.moved hW.alike h.2.2.2.2.1, vk_S.moved hW.alike h.2.2.2.2.2.1, vk_R.warm hW h.2.2.2.2.2.2⟩
theorem EX.same {em : Nat} {aK aV : Nat → Nat} {A : Nat → Prop} {U U' : State} {H : Heap} (hv : U'.vm = U.vm) (h : EX em aK aV A U H) : EX em aK aV A U' H := by
  have ha : U.vm.Alike U'.vm := by rw [hv]; exact Vm.Alike.refl _
  exact ⟨va_Nw.same rfl hv.symm h.1, va_AO.moved ha h.2.1, va_Z.moved ha h.2.2.1, va_Z.moved ha h.2.2.2.1, va_Zq.moved ha h.2.2.2.2.1, vk_S.moved ha h.2.2.2.2.2.1, vk_R.same hv h.2.2.2.2.2.2⟩
theorem EX.kept {em : Nat} {aK aV : Nat → Nat} {A : Nat → Prop} {U : State} {H H1 : Heap} (h : EX em aK aV A U H) (hq : ∀ a : Nat, a < H.size → ¬ A a → H1[a]? = H[a]?) : EX em aK aV A U H1 :=
  ⟨h.1, h.2.1, h.2.2.1.kept hq, h.2.2.2.1.kept hq, h.2.2.2.2.1.kept hq, h.2.2.2.2.2.1.kept hq, h.2.2.2.2.2.2⟩
theorem EX.narrow {em : Nat} {aK aV : Nat → Nat} {A B : Nat → Prop} {U : State} {H : Heap} (h : EX em aK aV A U H) (hAB : ∀ q, B q → A q) : EX em aK aV B U H :=
  ⟨h.1, h.2.1, h.2.2.1.narrow hAB, h.2.2.2.1.narrow hAB, h.2.2.2.2.1.narrow hAB, h.2.2.2.2.2.1.narrow hAB, h.2.2.2.2.2.2⟩
