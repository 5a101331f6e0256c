/-! which texts are pointers -/
def okT : List Nat → Bool
  | [] => true
  | c :: R => (decide (¬ c = 126) || (decide (hd0 R = 48) || decide (hd0 R = 49))) && okT R
theorem okT_iff : ∀ (T : List Nat), okT T = true ↔ ∀ k, k < T.length → T.getD k 0 = 126 → T.getD (k + 1) 0 = 48 ∨ T.getD (k + 1) 0 = 49
  | [] => by simp [okT]
  | c :: R => by
    rw [okT, Bool.and_eq_true, okT_iff R]
    have e0 : (c :: R).getD 1 0 = hd0 R := by simp [hd0, List.getD_eq_getElem?_getD]
    constructor
    · rintro ⟨h1, h2⟩ k hk hc
      cases k with
      | zero =>
        have hc' : c = 126 := by simpa using hc
        rw [show (c :: R).getD (0 + 1) 0 = hd0 R from e0]
        simpa [hc'] using h1
      | succ k =>
        have := h2 k (by simpa using hk) (by simpa using hc)
        simpa using this
    · intro h
      refine ⟨?_, fun k hk hc => ?_⟩
      · by_cases hc : c = 126
        · have := h 0 (by simp) (by simpa using hc)
          rw [show (c :: R).getD (0 + 1) 0 = hd0 R from e0] at this
          simpa [hc] using this
        · simp [hc]
      · have := h (k + 1) (by simpa using hk) (by simpa using hc)
        simpa using this
theorem dcs_cons (s : List Nat) (ss : List (List Nat)) : (dcs (s :: ss)).isSome = ((dcd s).isSome && (dcs ss).isSome) := by
  rw [dcs]
  cases dcd s <;> cases dcs ss <;> rfl
theorem dcd_some (c : Nat) (s : List Nat) : (dcd (c :: s)).isSome = if c = 126 then (match s with | [] => false | d :: s' => (decide (d = 48) || decide (d = 49)) && (dcd s').isSome) else (dcd s).isSome := by
  cases s with
  | nil =>
    have e : dcd [c] = if c = 126 then none else some [c] := by rw [dcd]
    rw [e]
    by_cases hc : c = 126
    · rw [if_pos hc, if_pos hc]; rfl
    · rw [if_neg hc, if_neg hc]; rfl
  | cons d s =>
    have e : dcd (c :: d :: s) = if c = 126 then (if d = 48 then (dcd s).map (fun q => 126 :: q) else if d = 49 then (dcd s).map (fun q => 47 :: q) else none) else (dcd (d :: s)).map (fun q => c :: q) := by rw [dcd]
    rw [e]
    by_cases hc : c = 126
    · rw [if_pos hc, if_pos hc]
      by_cases h0 : d = 48
      · rw [if_pos h0]; simp [h0]
      · rw [if_neg h0]
        by_cases h1 : d = 49
        · rw [if_pos h1]; simp [h1]
        · rw [if_neg h1]; simp [h0, h1]
    · rw [if_neg hc, if_neg hc]; simp
theorem spl_ok : ∀ (T : List Nat), (dcs (spl T)).isSome = okT T ∧ ∀ s ss, spl T = s :: ss → (T = s ∨ ∃ R, T = s ++ 47 :: R) 
  | [] => ⟨rfl, fun s ss h => by cases h; exact Or.inl rfl⟩
  | c :: T => by
    obtain ⟨ih1, ih2⟩ := spl_ok T
    by_cases hc : c = 47
    · subst hc
      rw [spl, if_pos rfl]
      refine ⟨?_, fun s ss h => by cases h; exact Or.inr ⟨T, rfl⟩⟩
      rw [dcs_cons, ih1, okT]
      rfl
    · obtain ⟨s, ss, hs⟩ := spl_ne T
      rw [spl, if_neg hc, hs]
      rw [hs, dcs_cons] at ih1
      have hT := ih2 s ss hs
      refine ⟨?_, fun s2 ss2 h => ?_⟩
      · rw [dcs_cons, dcd_some, okT]
        by_cases h126 : c = 126
        · rw [if_pos h126]
          cases s with
          | nil =>
            have hh : ¬ (hd0 T = 48 ∨ hd0 T = 49) := by
              rcases hT with h | ⟨R, h⟩
              · rw [h]; decide
              · rw [h]; show ¬ (47 = 48 ∨ 47 = 49); decide
            simp only [Bool.false_and, h126]
            rcases Nat.decEq (hd0 T) 48 with h | h
            · rcases Nat.decEq (hd0 T) 49 with h9 | h9
              · simp [h, h9]
              · exact absurd (Or.inr h9) hh
            · exact absurd (Or.inl h) hh
          | cons d s =>
            have hd : hd0 T = d := by rcases hT with h | ⟨R, h⟩ <;> rw [h] <;> rfl
            rw [hd]
            rw [dcd_some] at ih1
            by_cases h48 : d = 48
            · rw [← ih1]; simp [h48, h126]
            · by_cases h49 : d = 49
              · rw [← ih1]; simp [h49, h126]
              · simp [h48, h49, h126]
        · rw [if_neg h126, ih1]; simp [h126]
      · cases h
        rcases hT with h | ⟨R, h⟩
        · exact Or.inl (by rw [h])
        · exact Or.inr ⟨R, by rw [h]; rfl⟩
theorem ptr_some {T : List Nat} : (ptr T).isSome = true ↔ (T = [] ∨ hd0 T = 47) ∧ okT T = true := by
  cases T with
  | nil => simp [ptr, okT]
  | cons c T =>
    show (if c = 47 then dcs (spl T) else none).isSome = true ↔ _
    have e : hd0 (c :: T) = c := rfl
    rw [e]
    by_cases hc : c = 47
    · subst hc
      rw [if_pos rfl, (spl_ok T).1]
      simp [okT]
    · rw [if_neg hc]; simp [hc]
set_option maxHeartbeats 1000000 in
set_option maxRecDepth 100000 in
/-- isPointer(row) -/
theorem q_MO_isPointer (l : Launch) (dC : Nat → ClassId) (dI : Nat → Nat → Nat) (y : Nat) (lim : Int32) (rm : Int32) (i_literal : Int64) (a_size : Nat) (a_kind : Nat) (a_level : Nat) (a_at : Nat) (a_len : Nat) (a_nameAt : Nat) (a_nameLen : Nat) (a_num : Nat) (a_pool : Nat) (a_draft : Nat) (a_open : Nat) (a_word : Nat) (a_list : Nat) (a_next : Nat) (a_result : Nat) (a_twin : Nat) (a_came : Nat) (a_closer : Nat) (i_pooled : Int32) (i_drafted : Int32) (i_pos : Int32) (i_code : Int32) (i_opened : Int32) (i_heldAt : Int32) (i_heldLen : Int32) (i_letters : Int32) (i_literalKind : Int32) (i_bad : Int32) (i_given : Int32) (i_listed : Int32) (i_found : Int32) (i_last : Int32) (i_results : Int32) (i_full : Int32) (i_working : Int32) (i_seen : Int32) (i_wanted : Int32) (i_got : Int32) (cI : ClassId) (cC : ClassId) (kf : Nat → Int32) (lf : Nat → Int32) (af : Nat → Int32) (pf : Nat → Int32) (pn : Nat) (rr : Nat) (k : Nat) (tx : List Nat) (hrr : rr < 576) (hkf : kf rr = nI k) (hk6 : k ≤ 6) (h4 : k = 4 → ∃ p1, af rr = nI p1 ∧ lf rr = nI tx.length ∧ TXP pf pn p1 tx) (hpn : pn ≤ 8400) (hl1 : tx.length ≤ 160) : Met l y_MO_isPointer ws_MO_isPointer ({ frames := 0, cells := 0, slots := 0, locals := 0 }) (va_Pc [.ref y, .int (nI rr)] (fun U => va_P (dC, dI) vwCl [(y, .inr (12, [.int lim, .int rm, .ref a_size, .ref a_kind, .ref a_level, .ref a_at, .ref a_len, .ref a_nameAt, .ref a_nameLen, .ref a_num, .ref a_pool, .int i_pooled, .ref a_draft, .int i_drafted, .int i_pos, .int i_code, .ref a_open, .int i_opened, .int i_heldAt, .int i_heldLen, .ref a_word, .int i_letters, .int i_literalKind, .int i_bad, .int i_given, .long i_literal, .ref a_list, .ref a_next, .ref a_result, .int i_listed, .int i_found, .int i_last, .int i_results, .int i_full, .int i_working, .ref a_twin, .int i_seen, .int i_wanted, .int i_got, .ref a_came, .ref a_closer])), (a_kind, .inl (cI, 576, .inl kf)), (a_len, .inl (cI, 576, .inl lf)), (a_at, .inl (cI, 576, .inl af)), (a_pool, .inl (cC, 8400, .inl pf))] U.heap ∧ va_K (dC, dI) vwCl [(cI, .int), (cC, .char)] U)) (vp_Si (fun (r : Int32) => r = bI (decide (k = 4) && (ptr tx).isSome))) 0 0 (fun _ => False) := by
  refine Met.ofW (cc := c_MO_isPointer) (maxL := 5) (ret := (some .boolean)) (by decide) rfl ?_
  intro p e s m args below meth c s₁ B hml hv
  obtain ⟨hargs, hP, hK⟩ := hv
  rw [show entryFrame m args 5 = entryFrame m ([.ref y, .int (nI rr)]).toArray 5 by rw [hargs]]
  have hx := B.exec
  have hb := B.bytes
  have hr := B.returns
  have hts := atoms_spec (ws := ws_MO_isPointer) B.pre
  have htb := fun w (h : w ∈ TBL) => hts w (List.mem_cons_of_mem _ h)
  have hown : s.vm.findClass R_MO = some m.cls := findClass_of_methodNamed B.named
  have hlocks := B.notSynchronized
  have hl := lv_entry ([.ref y, .int (nI rr)]) (n := 5) (Nat.le_of_ble_eq_true rfl)
  rw [lg_entry_eq]
  generalize (lg_sl ([.ref y, .int (nI rr)]) ++ List.replicate (5 - (lg_sl ([.ref y, .int (nI rr)])).length) Slot.unset).toArray = ls at hl ⊢
  have hl : lv_has ls 5 [(0, .ref y), (1, .int (nI rr))] := hl
  refine zz_nQ (fun Q hQ => ?_)
  refine lv_iload_n hx hb d_MO_isPointer_0 rfl (lv_at hl 1 rfl) ?_
  refine lv_if_lt (tgt := 14) hx hb d_MO_isPointer_1 rfl (fun h9 => absurd h9 (nI_pos (by omega))) (fun _ => ?_)
  refine lv_aload_n hx hb d_MO_isPointer_4 rfl (lv_at hl 0 rfl) ?_
  refine va_get (D := (dC, dI)) (ci := 12) (v := .ref a_kind) (C := R_MO) (T := T_MO) (N := 41) hx hb htb in_MO hown hK hP 0 rfl rfl 3 (by decide) (htb _ m_1142) (fun _ h9 => h9) rfl d_MO_isPointer_5 ?_
  refine lv_iload_n hx hb d_MO_isPointer_8 rfl (lv_at hl 1 rfl) ?_
  refine va_iald hx hb hK hP 1 0 rfl rfl (vp_in_nI (by omega) (by omega)) d_MO_isPointer_9 ?_
  refine W.eq (congrArg (fun z => F0 m 10 ls (.int z :: [])) (by rw [nI_clamp (by omega)]; exact hkf : (kf (nI rr).toNatClampNeg) = nI k)) ?_
  refine lv_iconst (v := 4) hx hb d_MO_isPointer_10 (by decide) ?_
  refine lv_icmp_eq (tgt := 16) hx hb d_MO_isPointer_11 rfl (fun h1 => ?_) (fun h1 => ?_)
  · have h1 : k = 4 := (nI_eq (by omega) (by decide)).mp h1
    obtain ⟨p1, ha1, hl2, hpt⟩ := h4 h1
    have hp1 := hpt.1
    have hch : ∀ q, q < tx.length → tx.getD q 0 < 128 := fun q hq => by rw [List.getD_eq_getElem?_getD, List.getElem?_eq_getElem hq]; exact hpt.2.1 _ (List.getElem_mem hq)
    have hjoinG : ∀  (ls : Array Slot), lv_has ls 5 [(0, .ref y), (1, .int (nI rr))] → W p l e (headSpec ws_MO_isPointer ({ frames := 0, cells := 0, slots := 0, locals := 0 })).room s m args below meth c s.heap [] 0 0 Q (F0 m 46 ls [.int (bI (decide (tx = [] ∨ hd0 tx = 47)))]) := by
      intro  ls  hl
      refine lv_istore_n hx hb d_MO_isPointer_46 rfl hl (by decide) rfl (fun ls hl => ?_)
      have hl : lv_has ls 5 [(2, .int (bI (decide (tx = [] ∨ hd0 tx = 47)))), (0, .ref y), (1, .int (nI rr))] := hl
      refine lv_iconst (v := 0) hx hb d_MO_isPointer_47 (by decide) ?_
      refine lv_istore_n hx hb d_MO_isPointer_48 rfl hl (by decide) rfl (fun ls hl => ?_)
      have hl : lv_has ls 5 [(3, .int 0), (2, .int (bI (decide (tx = [] ∨ hd0 tx = 47)))), (0, .ref y), (1, .int (nI rr))] := hl
      have hloop : ∀ (k9 : Nat) (n1 : Nat) (gg : Bool) (ls : Array Slot), tx.length - n1 = k9 → (n1 ≤ tx.length) → (gg = true ↔ ((tx = [] ∨ hd0 tx = 47) ∧ ∀ q, q < n1 → tx.getD q 0 = 126 → tx.getD (q + 1) 0 = 48 ∨ tx.getD (q + 1) 0 = 49)) → lv_has ls 5 [(3, .int (nI n1)), (2, .int (bI gg)), (0, .ref y), (1, .int (nI rr))] → W p l e (headSpec ws_MO_isPointer ({ frames := 0, cells := 0, slots := 0, locals := 0 })).room s m args below meth c s.heap [] 0 0 Q (F0 m 49 ls []) := by
        intro k9
        induction k9 using Nat.strongRecOn with
        | ind k9 ih =>
          intro n1 gg ls hk9 hn1 hgg hl
          refine lv_iload_n hx hb d_MO_isPointer_49 rfl (lv_at hl 0 rfl) ?_
          refine lv_aload_n hx hb d_MO_isPointer_50 rfl (lv_at hl 2 rfl) ?_
          refine va_get (D := (dC, dI)) (ci := 12) (v := .ref a_len) (C := R_MO) (T := T_MO) (N := 41) hx hb htb in_MO hown hK hP 0 rfl rfl 6 (by decide) (htb _ m_1145) (fun _ h9 => h9) rfl d_MO_isPointer_51 ?_
          refine lv_iload_n hx hb d_MO_isPointer_54 rfl (lv_at hl 3 rfl) ?_
          refine va_iald hx hb hK hP 2 0 rfl rfl (vp_in_nI (by omega) (by omega)) d_MO_isPointer_55 ?_
          refine W.eq (congrArg (fun z => F0 m 56 ls (.int z :: [.int (nI n1)])) (by rw [nI_clamp (by omega)]; exact hl2 : (lf (nI rr).toNatClampNeg) = nI tx.length)) ?_
          refine lv_icmp_ge (tgt := 140) hx hb d_MO_isPointer_56 rfl (fun h5 => ?_) (fun h5 => ?_)
          · have h5 : tx.length ≤ n1 := (nI_leI (by omega) (by omega)).mp h5
            have hfin : (ptr tx).isSome = gg := Bool.eq_iff_iff.mpr (ptr_some.trans ((and_congr_right (fun _ => (okT_iff tx).trans ⟨fun h q hq => h q (by omega), fun h q hq => h q (by omega)⟩)).trans hgg.symm))
            refine lv_iload_n hx hb d_MO_isPointer_140 rfl (lv_at hl 1 rfl) ?_
            rw [hQ]
            exact W.zret (v := (bI gg)) hx hb hr (by cases gg <;> decide) (fun t ht hW => ⟨(bI gg), rfl, by rw [decide_eq_true h1, Bool.true_and, hfin], ht⟩) (fun q h => absurd h List.not_mem_nil) d_MO_isPointer_141
          · have h5 : n1 < tx.length := Nat.not_le.mp (fun h => h5 ((nI_leI (by omega) (by omega)).mpr h))
            have hcn := hch n1 h5
            refine lv_aload_n hx hb d_MO_isPointer_59 rfl (lv_at hl 2 rfl) ?_
            refine va_get (D := (dC, dI)) (ci := 12) (v := .ref a_pool) (C := R_MO) (T := T_MO) (N := 41) hx hb htb in_MO hown hK hP 0 rfl rfl 10 (by decide) (htb _ m_1149) (fun _ h9 => h9) rfl d_MO_isPointer_60 ?_
            refine lv_aload_n hx hb d_MO_isPointer_63 rfl (lv_at hl 2 rfl) ?_
            refine va_get (D := (dC, dI)) (ci := 12) (v := .ref a_at) (C := R_MO) (T := T_MO) (N := 41) hx hb htb in_MO hown hK hP 0 rfl rfl 5 (by decide) (htb _ m_1144) (fun _ h9 => h9) rfl d_MO_isPointer_64 ?_
            refine lv_iload_n hx hb d_MO_isPointer_67 rfl (lv_at hl 3 rfl) ?_
            refine va_iald hx hb hK hP 3 0 rfl rfl (vp_in_nI (by omega) (by omega)) d_MO_isPointer_68 ?_
            refine W.eq (congrArg (fun z => F0 m 69 ls (.int z :: [.ref a_pool])) (by rw [nI_clamp (by omega)]; exact ha1 : (af (nI rr).toNatClampNeg) = nI p1)) ?_
            refine lv_iload_n hx hb d_MO_isPointer_69 rfl (lv_at hl 0 rfl) ?_
            refine lv_iadd hx hb d_MO_isPointer_70 ?_
            refine W.eq (congrArg (fun z => F0 m 71 ls (.int z :: [.ref a_pool])) (nI_add _ _ : ((nI p1) + (nI n1)) = nI (p1 + n1))) ?_
            refine va_cald hx hb hK hP 4 1 rfl rfl (vp_in_nI (by omega) (by omega)) d_MO_isPointer_71 ?_
            refine W.eq (congrArg (fun z => F0 m 72 ls (.int z :: [])) (by rw [nI_clamp (by omega)]; exact hpt.2.2 n1 h5 : (pf (nI (p1 + n1)).toNatClampNeg) = nI (tx.getD n1 0))) ?_
            refine lv_bipush (v := 126) hx hb d_MO_isPointer_72 (by decide) ?_
            refine lv_icmp_ne (tgt := 134) hx hb d_MO_isPointer_74 rfl (fun h6 => ?_) (fun h6 => ?_)
            · have h6 : ¬ tx.getD n1 0 = 126 := fun h => h6 (by rw [h]; rfl)
              refine lv_iinc (k := 0) (v := ((nI n1) + Int32.ofInt 1)) hx hb d_MO_isPointer_134 hl rfl rfl (by decide) rfl (fun ls hl => ?_)
              have hl : lv_has ls 5 [(3, .int ((nI n1) + Int32.ofInt 1)), (2, .int (bI gg)), (0, .ref y), (1, .int (nI rr))] := hl
              rw [show nI n1 + Int32.ofInt 1 = nI (n1 + 1) from nI_1 _] at hl
              refine lv_goto (tgt := 49) hx hb d_MO_isPointer_137 rfl ?_
              exact ih (tx.length - (n1 + 1)) (by omega) (n1 + 1) gg ls rfl (by omega) (hgg.trans ⟨fun h => ⟨h.1, fun q hq hc => by rcases Nat.lt_succ_iff_lt_or_eq.mp hq with h9 | rfl; exact h.2 q h9 hc; exact absurd hc h6⟩, fun h => ⟨h.1, fun q hq => h.2 q (by omega)⟩⟩) (lv_sub hl [0, 1, 2, 3] rfl)
            · have h6 : tx.getD n1 0 = 126 := (nI_eq (by omega) (by decide)).mp h6
              have hdn : tx.getD (n1 + 1) 0 < 128 := by by_cases h : n1 + 1 < tx.length; exact hch _ h; rw [getD_end (by omega)]; decide
              have hjoinE : ∀ (g9 : Bool) (ls : Array Slot), (g9 = true ↔ gg = true ∧ (tx.getD (n1 + 1) 0 = 48 ∨ tx.getD (n1 + 1) 0 = 49)) → lv_has ls 5 [(3, .int (nI n1)), (0, .ref y), (1, .int (nI rr))] → W p l e (headSpec ws_MO_isPointer ({ frames := 0, cells := 0, slots := 0, locals := 0 })).room s m args below meth c s.heap [] 0 0 Q (F0 m 133 ls [.int (bI g9)]) := by
                intro g9 ls hg9 hl
                refine lv_istore_n hx hb d_MO_isPointer_133 rfl hl (by decide) rfl (fun ls hl => ?_)
                have hl : lv_has ls 5 [(2, .int (bI g9)), (3, .int (nI n1)), (0, .ref y), (1, .int (nI rr))] := hl
                refine lv_iinc (k := 1) (v := ((nI n1) + Int32.ofInt 1)) hx hb d_MO_isPointer_134 hl rfl rfl (by decide) rfl (fun ls hl => ?_)
                have hl : lv_has ls 5 [(3, .int ((nI n1) + Int32.ofInt 1)), (2, .int (bI g9)), (0, .ref y), (1, .int (nI rr))] := hl
                rw [show nI n1 + Int32.ofInt 1 = nI (n1 + 1) from nI_1 _] at hl
                refine lv_goto (tgt := 49) hx hb d_MO_isPointer_137 rfl ?_
                exact ih (tx.length - (n1 + 1)) (by omega) (n1 + 1) g9 ls rfl (by omega) (hg9.trans ⟨fun h => ⟨(hgg.mp h.1).1, fun q hq hc => by rcases Nat.lt_succ_iff_lt_or_eq.mp hq with h9 | rfl; exact (hgg.mp h.1).2 q h9 hc; exact h.2⟩, fun h => ⟨hgg.mpr ⟨h.1, fun q hq => h.2 q (by omega)⟩, h.2 n1 (by omega) h6⟩⟩) (lv_sub hl [0, 1, 2, 3] rfl)
              have hjoinD : ∀  (ls : Array Slot), lv_has ls 5 [(3, .int (nI n1)), (2, .int (bI gg)), (0, .ref y), (1, .int (nI rr))] → W p l e (headSpec ws_MO_isPointer ({ frames := 0, cells := 0, slots := 0, locals := 0 })).room s m args below meth c s.heap [] 0 0 Q (F0 m 108 ls [.int (nI (tx.getD (n1 + 1) 0))]) := by
                intro  ls  hl
                refine lv_istore hx hb d_MO_isPointer_108 hl (by decide) rfl (fun ls hl => ?_)
                have hl : lv_has ls 5 [(4, .int (nI (tx.getD (n1 + 1) 0))), (3, .int (nI n1)), (2, .int (bI gg)), (0, .ref y), (1, .int (nI rr))] := hl
                refine lv_iload_n hx hb d_MO_isPointer_110 rfl (lv_at hl 2 rfl) ?_
                refine lv_if_eq (tgt := 132) hx hb d_MO_isPointer_111 rfl (fun h7 => ?_) (fun h7 => ?_)
                · have h7 : gg = false := bI_eq.mp h7
                  refine lv_iconst (v := 0) hx hb d_MO_isPointer_132 (by decide) ?_
                  refine W.eq (g2 := F0 m 133 ls [.int (bI false)]) rfl ?_
                  exact hjoinE false ls (by rw [h7]; simp) (lv_sub hl [1, 3, 4] rfl)
                · have h7 : gg = true := bI_ne.mp h7
                  refine lv_iload hx hb d_MO_isPointer_114 (lv_at hl 0 rfl) ?_
                  refine lv_bipush (v := 48) hx hb d_MO_isPointer_116 (by decide) ?_
                  refine lv_icmp_eq (tgt := 128) hx hb d_MO_isPointer_118 rfl (fun h8 => ?_) (fun h8 => ?_)
                  · have h8 : tx.getD (n1 + 1) 0 = 48 := (nI_eq (by omega) (by decide)).mp h8
                    refine lv_iconst (v := 1) hx hb d_MO_isPointer_128 (by decide) ?_
                    refine lv_goto (tgt := 133) hx hb d_MO_isPointer_129 rfl ?_
                    refine W.eq (g2 := F0 m 133 ls [.int (bI true)]) rfl ?_
                    exact hjoinE true ls (iff_of_true rfl ⟨h7, Or.inl h8⟩) (lv_sub hl [1, 3, 4] rfl)
                  · have h8 : ¬ tx.getD (n1 + 1) 0 = 48 := fun h => h8 (by rw [h]; rfl)
                    refine lv_iload hx hb d_MO_isPointer_121 (lv_at hl 0 rfl) ?_
                    refine lv_bipush (v := 49) hx hb d_MO_isPointer_123 (by decide) ?_
                    refine lv_icmp_ne (tgt := 132) hx hb d_MO_isPointer_125 rfl (fun h9 => ?_) (fun h9 => ?_)
                    · have h9 : ¬ tx.getD (n1 + 1) 0 = 49 := fun h => h9 (by rw [h]; rfl)
                      refine lv_iconst (v := 0) hx hb d_MO_isPointer_132 (by decide) ?_
                      refine W.eq (g2 := F0 m 133 ls [.int (bI false)]) rfl ?_
                      exact hjoinE false ls (iff_of_false (by decide) (fun h => h.2.elim h8 h9)) (lv_sub hl [1, 3, 4] rfl)
                    · have h9 : tx.getD (n1 + 1) 0 = 49 := (nI_eq (by omega) (by decide)).mp h9
                      refine lv_iconst (v := 1) hx hb d_MO_isPointer_128 (by decide) ?_
                      refine lv_goto (tgt := 133) hx hb d_MO_isPointer_129 rfl ?_
                      refine W.eq (g2 := F0 m 133 ls [.int (bI true)]) rfl ?_
                      exact hjoinE true ls (iff_of_true rfl ⟨h7, Or.inr h9⟩) (lv_sub hl [1, 3, 4] rfl)
              refine lv_iload_n hx hb d_MO_isPointer_77 rfl (lv_at hl 0 rfl) ?_
              refine lv_iconst (v := 1) hx hb d_MO_isPointer_78 (by decide) ?_
              refine lv_iadd hx hb d_MO_isPointer_79 ?_
              refine W.eq (congrArg (fun z => F0 m 80 ls (.int z :: [])) (nI_1 _ : ((nI n1) + 1) = nI (n1 + 1))) ?_
              refine lv_aload_n hx hb d_MO_isPointer_80 rfl (lv_at hl 2 rfl) ?_
              refine va_get (D := (dC, dI)) (ci := 12) (v := .ref a_len) (C := R_MO) (T := T_MO) (N := 41) hx hb htb in_MO hown hK hP 0 rfl rfl 6 (by decide) (htb _ m_1145) (fun _ h9 => h9) rfl d_MO_isPointer_81 ?_
              refine lv_iload_n hx hb d_MO_isPointer_84 rfl (lv_at hl 3 rfl) ?_
              refine va_iald hx hb hK hP 2 0 rfl rfl (vp_in_nI (by omega) (by omega)) d_MO_isPointer_85 ?_
              refine W.eq (congrArg (fun z => F0 m 86 ls (.int z :: [.int (nI (n1 + 1))])) (by rw [nI_clamp (by omega)]; exact hl2 : (lf (nI rr).toNatClampNeg) = nI tx.length)) ?_
              refine lv_icmp_ge (tgt := 107) hx hb d_MO_isPointer_86 rfl (fun h7 => ?_) (fun h7 => ?_)
              · have h7 : tx.length ≤ n1 + 1 := (nI_leI (by omega) (by omega)).mp h7
                refine lv_iconst (v := 0) hx hb d_MO_isPointer_107 (by decide) ?_
                refine W.eq (g2 := F0 m 108 ls [.int (nI (tx.getD (n1 + 1) 0))]) (by rw [getD_end h7]; rfl) ?_
                exact hjoinD  ls  (lv_sub hl [0, 1, 2, 3] rfl)
              · have h7 : n1 + 1 < tx.length := Nat.not_le.mp (fun h => h7 ((nI_leI (by omega) (by omega)).mpr h))
                refine lv_aload_n hx hb d_MO_isPointer_89 rfl (lv_at hl 2 rfl) ?_
                refine va_get (D := (dC, dI)) (ci := 12) (v := .ref a_pool) (C := R_MO) (T := T_MO) (N := 41) hx hb htb in_MO hown hK hP 0 rfl rfl 10 (by decide) (htb _ m_1149) (fun _ h9 => h9) rfl d_MO_isPointer_90 ?_
                refine lv_aload_n hx hb d_MO_isPointer_93 rfl (lv_at hl 2 rfl) ?_
                refine va_get (D := (dC, dI)) (ci := 12) (v := .ref a_at) (C := R_MO) (T := T_MO) (N := 41) hx hb htb in_MO hown hK hP 0 rfl rfl 5 (by decide) (htb _ m_1144) (fun _ h9 => h9) rfl d_MO_isPointer_94 ?_
                refine lv_iload_n hx hb d_MO_isPointer_97 rfl (lv_at hl 3 rfl) ?_
                refine va_iald hx hb hK hP 3 0 rfl rfl (vp_in_nI (by omega) (by omega)) d_MO_isPointer_98 ?_
                refine W.eq (congrArg (fun z => F0 m 99 ls (.int z :: [.ref a_pool])) (by rw [nI_clamp (by omega)]; exact ha1 : (af (nI rr).toNatClampNeg) = nI p1)) ?_
                refine lv_iload_n hx hb d_MO_isPointer_99 rfl (lv_at hl 0 rfl) ?_
                refine lv_iadd hx hb d_MO_isPointer_100 ?_
                refine lv_iconst (v := 1) hx hb d_MO_isPointer_101 (by decide) ?_
                refine lv_iadd hx hb d_MO_isPointer_102 ?_
                refine W.eq (congrArg (fun z => F0 m 103 ls (.int z :: [.ref a_pool])) (by rw [nI_add, nI_1]; rfl : (((nI p1) + (nI n1)) + 1) = nI (p1 + (n1 + 1)))) ?_
                refine va_cald hx hb hK hP 4 1 rfl rfl (vp_in_nI (by omega) (by omega)) d_MO_isPointer_103 ?_
                refine W.eq (congrArg (fun z => F0 m 104 ls (.int z :: [])) (by rw [nI_clamp (by omega)]; exact hpt.2.2 (n1 + 1) h7 : (pf (nI (p1 + (n1 + 1))).toNatClampNeg) = nI (tx.getD (n1 + 1) 0))) ?_
                refine lv_goto (tgt := 108) hx hb d_MO_isPointer_104 rfl ?_
                exact hjoinD  ls  (lv_sub hl [0, 1, 2, 3] rfl)
      exact hloop _ 0 (decide (tx = [] ∨ hd0 tx = 47)) ls rfl (Nat.zero_le _) (by rw [decide_eq_true_iff]; exact ⟨fun h => ⟨h, fun q hq => absurd hq (Nat.not_lt_zero _)⟩, fun h => h.1⟩) (lv_sub hl [0, 1, 2, 3] rfl)
    refine lv_aload_n hx hb d_MO_isPointer_16 rfl (lv_at hl 0 rfl) ?_
    refine va_get (D := (dC, dI)) (ci := 12) (v := .ref a_len) (C := R_MO) (T := T_MO) (N := 41) hx hb htb in_MO hown hK hP 0 rfl rfl 6 (by decide) (htb _ m_1145) (fun _ h9 => h9) rfl d_MO_isPointer_17 ?_
    refine lv_iload_n hx hb d_MO_isPointer_20 rfl (lv_at hl 1 rfl) ?_
    refine va_iald hx hb hK hP 2 0 rfl rfl (vp_in_nI (by omega) (by omega)) d_MO_isPointer_21 ?_
    refine W.eq (congrArg (fun z => F0 m 22 ls (.int z :: [])) (by rw [nI_clamp (by omega)]; exact hl2 : (lf (nI rr).toNatClampNeg) = nI tx.length)) ?_
    refine lv_if_eq (tgt := 41) hx hb d_MO_isPointer_22 rfl (fun h2 => ?_) (fun h2 => ?_)
    · have h2 : tx.length = 0 := (nI_eq (by omega) (by decide)).mp h2
      refine lv_iconst (v := 1) hx hb d_MO_isPointer_41 (by decide) ?_
      refine lv_goto (tgt := 46) hx hb d_MO_isPointer_42 rfl ?_
      refine W.eq (g2 := F0 m 46 ls [.int (bI (decide (tx = [] ∨ hd0 tx = 47)))]) (by rw [decide_eq_true (Or.inl (List.length_eq_zero_iff.mp h2))]; rfl) ?_
      exact hjoinG  ls  (lv_sub hl [0, 1] rfl)
    · have h2 : ¬ tx.length = 0 := fun h => h2 (by rw [h]; rfl)
      have hc0 := hch 0 (by omega)
      refine lv_aload_n hx hb d_MO_isPointer_25 rfl (lv_at hl 0 rfl) ?_
      refine va_get (D := (dC, dI)) (ci := 12) (v := .ref a_pool) (C := R_MO) (T := T_MO) (N := 41) hx hb htb in_MO hown hK hP 0 rfl rfl 10 (by decide) (htb _ m_1149) (fun _ h9 => h9) rfl d_MO_isPointer_26 ?_
      refine lv_aload_n hx hb d_MO_isPointer_29 rfl (lv_at hl 0 rfl) ?_
      refine va_get (D := (dC, dI)) (ci := 12) (v := .ref a_at) (C := R_MO) (T := T_MO) (N := 41) hx hb htb in_MO hown hK hP 0 rfl rfl 5 (by decide) (htb _ m_1144) (fun _ h9 => h9) rfl d_MO_isPointer_30 ?_
      refine lv_iload_n hx hb d_MO_isPointer_33 rfl (lv_at hl 1 rfl) ?_
      refine va_iald hx hb hK hP 3 0 rfl rfl (vp_in_nI (by omega) (by omega)) d_MO_isPointer_34 ?_
      refine W.eq (congrArg (fun z => F0 m 35 ls (.int z :: [.ref a_pool])) (by rw [nI_clamp (by omega)]; exact ha1 : (af (nI rr).toNatClampNeg) = nI p1)) ?_
      refine va_cald hx hb hK hP 4 1 rfl rfl (vp_in_nI (by omega) (by omega)) d_MO_isPointer_35 ?_
      refine W.eq (congrArg (fun z => F0 m 36 ls (.int z :: [])) (by rw [nI_clamp (by omega)]; exact hpt.2.2 0 (by omega) : (pf (nI p1).toNatClampNeg) = nI (tx.getD 0 0))) ?_
      refine lv_bipush (v := 47) hx hb d_MO_isPointer_36 (by decide) ?_
      refine lv_icmp_ne (tgt := 45) hx hb d_MO_isPointer_38 rfl (fun h3 => ?_) (fun h3 => ?_)
      · have h3 : ¬ tx.getD 0 0 = 47 := fun h => h3 (by rw [h]; rfl)
        refine lv_iconst (v := 0) hx hb d_MO_isPointer_45 (by decide) ?_
        refine W.eq (g2 := F0 m 46 ls [.int (bI (decide (tx = [] ∨ hd0 tx = 47)))]) (by rw [decide_eq_false (fun h => h.elim (fun h => h2 (by rw [h]; rfl)) h3)]; rfl) ?_
        exact hjoinG  ls  (lv_sub hl [0, 1] rfl)
      · have h3 : tx.getD 0 0 = 47 := (nI_eq (by omega) (by decide)).mp h3
        refine lv_iconst (v := 1) hx hb d_MO_isPointer_41 (by decide) ?_
        refine lv_goto (tgt := 46) hx hb d_MO_isPointer_42 rfl ?_
        refine W.eq (g2 := F0 m 46 ls [.int (bI (decide (tx = [] ∨ hd0 tx = 47)))]) (by rw [decide_eq_true (Or.inr (show hd0 tx = 47 from h3))]; rfl) ?_
        exact hjoinG  ls  (lv_sub hl [0, 1] rfl)
  · have h1 : ¬ k = 4 := fun h => h1 (by rw [h]; rfl)
    refine lv_iconst (v := 0) hx hb d_MO_isPointer_14 (by decide) ?_
    rw [hQ]
    exact W.zret (v := 0) hx hb hr (by decide) (fun t ht hW => ⟨0, rfl, by rw [decide_eq_false h1]; rfl, ht⟩) (fun q h => absurd h List.not_mem_nil) d_MO_isPointer_15
