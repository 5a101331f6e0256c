theorem nvz_close {c : Nat} {b : Bool} {s : List (Nat × Bool)} {rest : List Row} (h : LOW s.length rest) (hn : nvz s rest) : nvz ((c, b) :: s) rest := by
  cases rest with
  | nil => trivial
  | cons q r =>
    have hq := h q r rfl
    obtain ⟨h1, h2, h3⟩ := hn
    refine ⟨by simp only [List.length_cons]; omega, h2, ?_⟩
    rw [show ((c, b) :: s).length - q.2.1 = (s.length - q.2.1) + 1 by simp only [List.length_cons]; omega]
    exact h3
/-- a document among other rows: the text never closes more brackets than are open -/
theorem nvz_sub : ∀ (d : Nat) (rows : List Row), WR d rows → ∀ (st : List (Nat × Bool)) (nm : List Nat) (rest : List Row), LOW st.length rest → st.length + d ≤ 12 → nvz (markS st) rest → nvz st (setNm nm (lift st.length rows) ++ rest)
  | 0, _, h => h.elim
  | d + 1, rows, h => by
    have kids : ∀ (k : Nat) (ns : List (List Nat)) (rs : List (List Row)), ns.length = rs.length → (∀ r ∈ rs, WR d r) → ∀ (b : Bool) (c : Nat) (s : List (Nat × Bool)) (rest : List Row), LOW s.length rest → s.length + 1 + d ≤ 12 → nvz s rest → nvz ((c, b) :: s) (lift s.length (kidRows k ns rs) ++ rest) := by
      intro k ns
      induction ns with
      | nil =>
        intro rs hl _ b c s rest hr _ hn
        cases rs with
        | nil => exact nvz_close hr hn
        | cons r rs => simp at hl
      | cons n ns ih =>
        intro rs hl hw b c s rest hr hd hn
        cases rs with
        | nil => simp at hl
        | cons r rs =>
          have hwr := hw r List.mem_cons_self
          have hws : ∀ r ∈ rs, WR d r := fun r hm => hw r (List.mem_cons_of_mem _ hm)
          rw [kidRows, lift_app, lift_raise, kid_nm hwr, lift_setNm, List.append_assoc]
          exact nvz_sub d r hwr ((c, b) :: s) (if k = 6 then 0 :: n else []) (lift s.length (kidRows k ns rs) ++ rest) (kids_low ns rs hws s.length rest hr) (by simp only [List.length_cons]; omega) (ih rs (by simpa using hl) hws true c s rest hr hd hn)
    obtain ⟨k, num, rt, ns, rs, e, hl, hk5, hk6, hw⟩ := h
    intro st nm rest hr hd hn
    have e2 : setNm nm (lift st.length rows) ++ rest = (k, 0 + st.length, num, rt, nm) :: (lift st.length (kidRows k ns rs) ++ rest) := by rw [e]; rfl
    rw [e2]
    refine ⟨by show 0 + st.length ≤ _; omega, fun _ => by show 0 + st.length < 12; omega, ?_⟩
    simp only [Nat.zero_add, Nat.sub_self, List.drop_zero]
    by_cases h5 : 5 ≤ k
    · rw [show pushS k (markS st) = (clsK k, false) :: markS st from if_pos h5]
      have := kids k ns rs hl hw false (clsK k) (markS st) rest (by rw [mark_len]; exact hr) (by rw [mark_len]; omega) hn
      rw [mark_len] at this
      exact this
    · have er : rs = [] := hk5 (by omega)
      subst er
      have en : ns = [] := List.length_eq_zero_iff.mp hl
      subst en
      rw [show pushS k (markS st) = markS st from if_neg h5]
      exact hn
theorem nvz_of {d : Nat} {rows : List Row} (h : WR d rows) (hd : d ≤ 12) : nvz [] rows := by
  have := nvz_sub d rows h [] [] [] (fun q r e => by cases e) (by simpa using hd) trivial
  rw [show ([] : List (Nat × Bool)).length = 0 from rfl, lift_zero, wr_setNm h, List.append_nil] at this
  exact this
/-- the rows of a document that stands among others -/
theorem SUB.rowsOf {d : Nat} {rows r : List Row} {i l : Nat} {nm : List Nat} (h : SUB rows i l nm r) (hw : WR d r) {t : Nat} {q : Row} (hq : r[t]? = some q) : ∃ q0, rows[i + t]? = some q0 ∧ q = (q0.1, lvR rows (i + t) - lvR rows i, q0.2.2.1, q0.2.2.2.1, if t = 0 then [] else q0.2.2.2.2) ∧ lvR rows i ≤ lvR rows (i + t) ∧ (t = 0 → lvR rows (i + t) = lvR rows i) ∧ (¬ t = 0 → lvR rows i < lvR rows (i + t)) := by
  cases d with
  | zero => exact hw.elim
  | succ d =>
    obtain ⟨k, num, rt, ns, rs, rfl, hl, _, _, hws⟩ := hw
    have hrow := h.row
    have hli := lvR_of hrow
    obtain ⟨pre, post, e, rfl, hlow⟩ := h
    cases t with
    | zero =>
      cases hq
      refine ⟨_, hrow, ?_, Nat.le_refl _, fun _ => rfl, fun h => absurd rfl h⟩
      simp
    | succ t =>
      rw [List.getElem?_cons_succ] at hq
      have ht : t < (kidRows k ns rs).length := (List.getElem?_eq_some_iff.mp hq).1
      have e3 : rows[pre.length + (t + 1)]? = some (q.1, q.2.1 + l, q.2.2) := by
        have e2 : rows = (pre ++ [(k, 0 + l, num, rt, nm)]) ++ (lift l (kidRows k ns rs) ++ post) := by
          rw [e]
          show pre ++ (((k, 0 + l, num, rt, nm) :: lift l (kidRows k ns rs)) ++ post) = _
          simp
        rw [e2, List.getElem?_append_right (by simp), List.getElem?_append_left (by simp [lift_len]; omega)]
        simp only [List.length_append, List.length_singleton]
        rw [show pre.length + (t + 1) - (pre.length + 1) = t by omega, lift, List.getElem?_map, hq]
        rfl
      have hk := kid_lv ns rs q (List.mem_of_getElem? hq)
      rw [lvR_of e3, hli]
      refine ⟨_, e3, ?_, ?_, fun h => by omega, fun _ => ?_⟩
      · show q = (q.1, q.2.1 + l - l, q.2.2.1, q.2.2.2.1, if t + 1 = 0 then [] else q.2.2.2.2)
        rw [if_neg (by omega), Nat.add_sub_cancel]
      · show l ≤ q.2.1 + l
        omega
      · show l < q.2.1 + l
        omega
/-- the depth as the model counts it -/
theorem tok_eq {a b : Row} (h1 : a.1 = b.1) (h2 : a.2.2.1 = b.2.2.1) (h3 : a.2.2.2.1 = b.2.2.2.1) : tok a = tok b := by
  unfold tok; rw [h1, h2, h3]
