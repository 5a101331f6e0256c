theorem n_fault : Cond.fieldLinkNest R_PS 59 "PatchStore$JsonReader" "fault" "I" "PatchStore" ∈ lw_tbl := List.mem_append_right _ (List.mem_append_left _ (List.mem_of_getElem? (i := 164) (by decide +kernel)))
theorem n_over : Cond.arrayOver (.object "PatchStore$Value") ∈ lw_tbl := List.mem_append_right _ (List.mem_append_left _ (List.mem_of_getElem? (i := 72) (by decide +kernel)))
theorem n_compact : Cond.laysStatic "java/lang/String" "COMPACT_STRINGS" "Z" ∈ lw_tbl := List.mem_append_right _ (List.mem_append_left _ (List.mem_of_getElem? (i := 47) (by decide +kernel)))
theorem n_empty : Cond.laysStatic "java/util/ArrayList" "DEFAULTCAPACITY_EMPTY_ELEMENTDATA" "[Ljava/lang/Object;" ∈ lw_tbl := List.mem_append_right _ (List.mem_append_left _ (List.mem_of_getElem? (i := 86) (by decide +kernel)))
theorem n_form : Cond.laysStatic "jdk/internal/util/Preconditions" "SIOOBE_FORMATTER" "Ljava/util/function/BiFunction;" ∈ lw_tbl := List.mem_append_right _ (List.mem_append_right _ (List.mem_append_left _ (List.mem_of_getElem? (i := 66) (by decide +kernel))))
theorem n_false : Cond.stringRef R_CU 59 "false" ∈ lw_tbl := List.mem_append_right _ (List.mem_append_right _ (List.mem_append_left _ (List.mem_of_getElem? (i := 208) (by decide +kernel))))
theorem kn_all {args : Array Value} {s : State} (htb : ∀ w ∈ TBL, w.before args s = true) : ∀ c : Nat, ∃ (cC : ClassId) (iS : Nat → Nat), ∀ q, vwCl[c]? = some q → u_Kn s q.1 q.2.1 q.2.2 cC iS
  | 0 => by
    obtain ⟨a, b, h⟩ := u_known htb in_PS (htb _ m_30)
    exact ⟨a, b, fun q hq => by cases hq; exact h⟩
  | 1 => by
    obtain ⟨a, b, h⟩ := u_known htb in_CU (htb _ m_137)
    exact ⟨a, b, fun q hq => by cases hq; exact h⟩
  | 2 => by
    obtain ⟨a, b, h⟩ := u_known htb in_JR (htb _ m_156)
    exact ⟨a, b, fun q hq => by cases hq; exact h⟩
  | 3 => by
    obtain ⟨a, b, h⟩ := u_known htb in_VA (htb _ m_370)
    exact ⟨a, b, fun q hq => by cases hq; exact h⟩
  | 4 => by
    obtain ⟨a, b, h⟩ := u_known htb in_OP (htb _ m_725)
    exact ⟨a, b, fun q hq => by cases hq; exact h⟩
  | 5 => by
    obtain ⟨a, b, h⟩ := u_known htb in_PT (htb _ m_614)
    exact ⟨a, b, fun q hq => by cases hq; exact h⟩
  | 6 => by
    obtain ⟨a, b, h⟩ := u_known htb in_PA (htb _ m_750)
    exact ⟨a, b, fun q hq => by cases hq; exact h⟩
  | 7 => by
    obtain ⟨a, b, h⟩ := u_known htb in_PR (htb _ m_847)
    exact ⟨a, b, fun q hq => by cases hq; exact h⟩
  | 8 => by
    obtain ⟨a, b, h⟩ := u_known htb in_SC (htb _ m_1056)
    exact ⟨a, b, fun q hq => by cases hq; exact h⟩
  | 9 => by
    obtain ⟨a, b, h⟩ := u_known htb in_SG (htb _ m_873)
    exact ⟨a, b, fun q hq => by cases hq; exact h⟩
  | 10 => by
    obtain ⟨a, b, h⟩ := u_known htb in_SE (htb _ m_893)
    exact ⟨a, b, fun q hq => by cases hq; exact h⟩
  | 11 => by
    obtain ⟨a, b, h⟩ := u_known htb in_TE (htb _ m_969)
    exact ⟨a, b, fun q hq => by cases hq; exact h⟩
  | 12 => by
    obtain ⟨a, b, h⟩ := u_known htb in_MO (htb _ m_1134)
    exact ⟨a, b, fun q hq => by cases hq; exact h⟩
  | 13 => by
    obtain ⟨a, b, h⟩ := u_known htb in_SB (htb _ m_38)
    exact ⟨a, b, fun q hq => by cases hq; exact h⟩
  | 14 => by
    obtain ⟨a, b, h⟩ := u_known htb in_AL (htb _ m_74)
    exact ⟨a, b, fun q hq => by cases hq; exact h⟩
  | 15 => by
    obtain ⟨a, b, h⟩ := u_known htb in_ST (htb _ m_258)
    exact ⟨a, b, fun q hq => by cases hq; exact h⟩
  | n + 16 => ⟨0, fun _ => 0, fun q hq => by simp [vwCl] at hq⟩
set_option maxRecDepth 100000 in
theorem start_env {b : Nat} {s : State} (hts : ∀ w ∈ lw_tbl, w.before #[Value.ref b] s = true) (hgv : (Jvm.Cond.and given_1 narrow_1).before #[Value.ref b] s = true) : ∃ (em : Nat) (aK aV : Nat → Nat), EX em aK aV (fun q => s.heap.size ≤ q) s s.heap := by
  have hs := flat_of_before _ hgv
  have hA : ∀ a : Nat, a < s.heap.size → ¬ (fun q => s.heap.size ≤ q) a := fun a h h2 => absurd h (Nat.not_lt.mpr h2)
  have h0 : (Cond.arrayOf (.static "java/util/ArrayList" "DEFAULTCAPACITY_EMPTY_ELEMENTDATA" "[Ljava/lang/Object;") (.object "java/lang/Object")).before #[Value.ref b] s = true := hs _ (by decide +kernel)
  have h1 : (Cond.eq (.length (.static "java/util/ArrayList" "DEFAULTCAPACITY_EMPTY_ELEMENTDATA" "[Ljava/lang/Object;")) (.int 0)).before #[Value.ref b] s = true := hs _ (by decide +kernel)
  obtain ⟨em, hem, -⟩ := va_Tof (N := 0) (f := fun _ => .null) (A := fun q => s.heap.size ≤ q) (by decide) h0 (va_eqt h1) (fun j hj => absurd hj (Nat.not_lt_zero j)) hA
  obtain ⟨aK, aV, hS, hk⟩ := vk_Sof (args := #[Value.ref b]) (s := s) (N := 1) (tm := fun _ => .string "PatchStore$Cursor" 59) (len := [5]) (byt := [[102, 97, 108, 115, 101]]) (A := fun q => s.heap.size ≤ q)
    (fun i hi => by rcases (show i = 0 by omega) with rfl; decide)
    (fun i hi => hs _ (by decide +kernel))
    (fun i hi => hs _ (by decide +kernel))
    (fun i hi => hs _ (by decide +kernel))
    (fun i hi => by rcases (show i = 0 by omega) with rfl; exact hs _ (by decide +kernel))
    (fun i hi j hj => by
      rcases (show i = 0 by omega) with rfl
      have hj : j < 5 := hj
      rcases (show j = 0 ∨ j = 1 ∨ j = 2 ∨ j = 3 ∨ j = 4 by omega) with rfl | rfl | rfl | rfl | rfl <;> exact hs _ (by decide +kernel))
    (fun i j hi hj hij => absurd (show i = j by omega) hij) hA
  refine ⟨em, aK, aV, va_Nw.of rfl (hts _ n_fault), va_AO.of (hts _ n_over), ?_, ?_, ?_, hS, vk_R.of (hts _ n_false) (hk 0 (by decide))⟩
  · exact va_Zof (hts _ n_compact) (hts _ (tb_in m_4)) (va_eqi (hs _ (by decide +kernel))) hA
  · exact va_Zref (hts _ n_empty) (hts _ (tb_in m_8)) hem hA
  · exact va_Zqof (hts _ n_form) (hts _ (tb_in m_17)) (hs _ (by decide +kernel)) hA
/-- the law's own cell(script, j) -/
def cellv (xs : Nat → Int32) (L j : Nat) : Int32 := if j < L then xs j else 0
set_option maxHeartbeats 1000000 in
set_option maxRecDepth 100000 in
theorem k_LA_cell (l : Launch) (dC : Nat → ClassId) (dI : Nat → Nat → Nat) (sz : Nat) (b : Nat) (L : Nat) (xs : Nat → Int32) (k : Int32) (j : Nat) (hk : k = nI j) (hj : j < 2 ^ 31) (hL : L < 2 ^ 31) : Met l y_LA_cell ws_LA_cell ({ frames := 0, cells := 0, slots := 0, locals := 0 }) (va_Pc [.ref b, .int k] (fun U => U.heap.size = sz ∧ va_P (dC, dI) vwCl [] U.heap ∧ va_K (dC, dI) vwCl [] U ∧ va_D (fun _ => True) [] ∧ va_X b L xs U U.heap ∧ b < U.heap.size)) (va_Qi (fun (r : Int32) (u : Unit) => r = cellv xs L j) (fun u t => va_P (dC, dI) vwCl [] t.heap ∧ va_K (dC, dI) vwCl [] t ∧ va_D (va_A [] sz) []) (va_A [] sz)) 0 0 (va_A [] sz) := by
  refine Met.ofW (cc := c_LA_cell) (maxL := 2) (ret := (some .int)) (by decide) rfl ?_
  intro p e s m args below meth c s₁ B hml hv
  obtain ⟨rfl, hsz, hP, hK, hD0, hX, hbz⟩ := hv
  have hx := B.exec
  have hb := B.bytes
  have hr := B.returns
  have hts := atoms_spec (ws := ws_LA_cell) B.pre
  have htb := fun w (h : w ∈ TBL) => hts w (List.mem_cons_of_mem _ h)
  have hown : s.vm.findClass R_LA = some m.cls := findClass_of_methodNamed B.named
  have hlocks := B.notSynchronized
  subst hsz
  have hD := hD0.self (sz := s.heap.size)
  generalize hAe : va_A [] s.heap.size = A at hD ⊢
  have hA : ∀ q : Nat, s.heap.size ≤ q → A q := fun q h => by rw [← hAe]; exact Or.inr h
  have hS : va_S A s.heap s.heap [] := va_S.rf
  have hP : va_P (dC, dI) vwCl [] s.heap := hP
  have hl := lv_entry ([.ref b, .int k]) (n := 2) (Nat.le_of_ble_eq_true rfl)
  rw [lg_entry_eq]
  generalize (lg_sl ([.ref b, .int k]) ++ List.replicate (2 - (lg_sl ([.ref b, .int k])).length) Slot.unset).toArray = ls at hl ⊢
  have hl : lv_has ls 2 [(0, .ref b), (1, .int k)] := hl
  have hbA : ¬ A b := by rw [← hAe]; rintro (⟨k9, e9, h9⟩ | h9); exact absurd h9 (by simp); omega
  subst hk
  refine lv_iload_n hx hb d_LA_cell_0 rfl (lv_at hl 1 rfl) ?_
  refine lv_aload_n hx hb d_LA_cell_1 rfl (lv_at hl 0 rfl) ?_
  refine va_slen hx hb hX hbz hbA hS d_LA_cell_2 ?_
  refine W.eq (g2 := F0 m 3 ls [.int (nI L), .int (nI j)]) rfl ?_
  refine lv_icmp_ge (tgt := 12) hx hb d_LA_cell_3 rfl (fun h1 => ?_) (fun h1 => ?_)
  · refine lv_iconst (v := 0) hx hb d_LA_cell_12 (by decide) ?_
    have hP9 := hP.sub (ws' := []) [] rfl
    have hD9 := hD.sub (ws' := []) [] (by decide) rfl
    have hK9 := hK.sub (tys' := []) [] rfl
    refine W.widen (k := 0) (n := 0) (Nat.le_of_ble_eq_true rfl) (Nat.le_of_ble_eq_true rfl) ?_
    exact W.iret (v := 0) hx hb hr (fun t ht hW => ⟨⟨0, (), rfl, by rw [cellv, if_neg (Nat.not_lt.mpr ((nI_leI hL hj).mp h1))], ⟨by rw [ht]; exact hP9, va_K.moved hW.alike hK9, hD9⟩⟩, hS.F ht⟩) hS.2.2 d_LA_cell_13
  · have hjL : j < L := Nat.not_le.mp (fun h => h1 ((nI_leI hL hj).mpr h))
    refine lv_aload_n hx hb d_LA_cell_6 rfl (lv_at hl 0 rfl) ?_
    refine lv_iload_n hx hb d_LA_cell_7 rfl (lv_at hl 1 rfl) ?_
    refine va_sld hx hb hX hbz hbA hS (vp_in_nI hjL hL) d_LA_cell_8 ?_
    refine W.eq (congrArg (fun z => F0 m 9 ls (.int z :: [])) (by rw [nI_clamp hj] : (xs (nI j).toNatClampNeg) = xs j)) ?_
    refine lv_goto (tgt := 13) hx hb d_LA_cell_9 rfl ?_
    have hP9 := hP.sub (ws' := []) [] rfl
    have hD9 := hD.sub (ws' := []) [] (by decide) rfl
    have hK9 := hK.sub (tys' := []) [] rfl
    refine W.widen (k := 0) (n := 0) (Nat.le_of_ble_eq_true rfl) (Nat.le_of_ble_eq_true rfl) ?_
    exact W.iret (v := (xs j)) hx hb hr (fun t ht hW => ⟨⟨(xs j), (), rfl, by rw [cellv, if_pos hjL], ⟨by rw [ht]; exact hP9, va_K.moved hW.alike hK9, hD9⟩⟩, hS.F ht⟩) hS.2.2 d_LA_cell_13

