/-! a document's parts, taken from its rows -/
def hl1 (r : List Row) : Bool := match r with
  | [] => true
  | q :: _ => decide (q.2.1 ≤ 1)
def kds : List Row → List (List Row)
  | [] => []
  | q :: r => if hl1 r then [q] :: kds r else (match kds r with
    | [] => [[q]]
    | s :: ss => (q :: s) :: ss)
def lower (r : List Row) : List Row := r.map (fun q => (q.1, q.2.1 - 1, q.2.2))
def ksR (w : List Row) : List (List Row) := (kds w.tail).map (fun g => setNm [] (lower g))
def ksN (w : List Row) : List (List Nat) := (kds w.tail).map (fun g => (nmR g 0).drop 1)
def hdK (w : List Row) : Nat := match w with
  | [] => 0
  | q :: _ => q.1
theorem kds_app {rest : List Row} (hr : hl1 rest = true) : ∀ (r : List Row) (q : Row), (∀ x ∈ r, 2 ≤ x.2.1) → kds (q :: (r ++ rest)) = (q :: r) :: kds rest
  | [], q, _ => by rw [List.nil_append, kds, if_pos hr]
  | x :: r, q, h => by
    have ih := kds_app hr r x (fun y hy => h y (List.mem_cons_of_mem _ hy))
    have hx := h x List.mem_cons_self
    rw [List.cons_append, kds, if_neg (by simp [hl1]; omega), ih]
theorem kid_hl1 {k d : Nat} : ∀ (ns : List (List Nat)) (rs : List (List Row)), (∀ r ∈ rs, WR d r) → hl1 (kidRows k ns rs) = true
  | [], rs, _ => by cases rs <;> rfl
  | _ :: _, [], _ => rfl
  | n :: ns, r :: rs, h => by
    have hr := h r List.mem_cons_self
    cases d with
    | zero => exact hr.elim
    | succ d =>
      obtain ⟨k2, num, rt, ns', rs', rfl, _⟩ := hr
      rw [kidRows]
      split <;> rfl
theorem kds_kid {k d : Nat} : ∀ (ns : List (List Nat)) (rs : List (List Row)), ns.length = rs.length → (∀ r ∈ rs, WR d r) → kds (kidRows k ns rs) = List.zipWith (fun n r => raise (if k = 6 then setNm (0 :: n) r else r)) ns rs
  | [], [], _, _ => rfl
  | _ :: _, [], h, _ => by simp at h
  | [], _ :: _, h, _ => by simp at h
  | n :: ns, r :: rs, h, hw => by
    have ih := kds_kid (k := k) ns rs (by simpa using h) (fun r hm => hw r (List.mem_cons_of_mem _ hm))
    have hl := kid_hl1 (k := k) ns rs (fun r hm => hw r (List.mem_cons_of_mem _ hm))
    have hr := hw r List.mem_cons_self
    cases d with
    | zero => exact hr.elim
    | succ d =>
      obtain ⟨k2, num, rt, ns', rs', rfl, _⟩ := hr
      have hk : ∀ x ∈ raise (kidRows k2 ns' rs'), 2 ≤ x.2.1 := fun x hx => by
        obtain ⟨x0, h0, rfl⟩ := List.mem_map.mp hx
        have := kid_lv ns' rs' x0 h0
        show 2 ≤ x0.2.1 + 1
        omega
      rw [kidRows, List.zipWith_cons_cons, ← ih]
      by_cases h6 : k = 6
      · rw [if_pos h6]
        exact kds_app hl _ (k2, 0 + 1, num, rt, 0 :: n) hk
      · rw [if_neg h6]
        exact kds_app hl _ (k2, 0 + 1, num, rt, []) hk
theorem lower_raise (r : List Row) : lower (raise r) = r := by
  induction r with
  | nil => rfl
  | cons q r ih =>
    show (q.1, q.2.1 + 1 - 1, q.2.2) :: lower (raise r) = q :: r
    rw [ih, Nat.add_sub_cancel]
theorem setNm2 {a b : List Nat} {r : List Row} : setNm a (setNm b r) = setNm a r := by cases r <;> rfl
theorem ksR_kid {k d : Nat} {q : Row} {ns : List (List Nat)} {rs : List (List Row)} (hl : ns.length = rs.length) (hw : ∀ r ∈ rs, WR d r) : ksR (q :: kidRows k ns rs) = rs := by
  show (kds (kidRows k ns rs)).map _ = _
  rw [kds_kid ns rs hl hw]
  induction ns generalizing rs with
  | nil => cases rs with
    | nil => rfl
    | cons r rs => simp at hl
  | cons n ns ih => cases rs with
    | nil => simp at hl
    | cons r rs =>
      rw [List.zipWith_cons_cons, List.map_cons, ih (by simpa using hl) (fun r hm => hw r (List.mem_cons_of_mem _ hm)), lower_raise]
      congr 1
      split
      · rw [setNm2]; exact wr_setNm (hw r List.mem_cons_self)
      · exact wr_setNm (hw r List.mem_cons_self)
theorem ksN_kid {d : Nat} {q : Row} {ns : List (List Nat)} {rs : List (List Row)} (hl : ns.length = rs.length) (hw : ∀ r ∈ rs, WR d r) : ksN (q :: kidRows 6 ns rs) = ns := by
  show (kds (kidRows 6 ns rs)).map _ = _
  rw [kds_kid ns rs hl hw]
  induction ns generalizing rs with
  | nil => cases rs with
    | nil => rfl
    | cons r rs => simp at hl
  | cons n ns ih => cases rs with
    | nil => simp at hl
    | cons r rs =>
      rw [List.zipWith_cons_cons, List.map_cons, ih (by simpa using hl) (fun r hm => hw r (List.mem_cons_of_mem _ hm)), if_pos rfl]
      congr 1
      have hr := hw r List.mem_cons_self
      cases d with
      | zero => exact hr.elim
      | succ d => obtain ⟨k2, num, rt, ns', rs', rfl, _⟩ := hr; rfl
theorem ksN_len (w : List Row) : (ksN w).length = (ksR w).length := by simp [ksN, ksR]
theorem kid_names5 {k : Nat} (hk : ¬ k = 6) : ∀ (ns ms : List (List Nat)) (rs : List (List Row)), ns.length = rs.length → ms.length = rs.length → kidRows k ns rs = kidRows k ms rs
  | [], [], [], _, _ => rfl
  | n :: ns, m :: ms, r :: rs, h1, h2 => by
    rw [kidRows, kidRows, if_neg hk, if_neg hk, kid_names5 hk ns ms rs (by simpa using h1) (by simpa using h2)]
  | _ :: _, _, [], h, _ => by simp at h
  | [], _, _ :: _, h, _ => by simp at h
  | _, _ :: _, [], _, h => by simp at h
  | _, [], _ :: _, _, h => by simp at h
/-- every document is its head and its parts -/
theorem wr_parts {d : Nat} {w : List Row} (h : WR (d + 1) w) : ∃ (k : Nat) (num : Int) (rt : List Nat), w = (k, 0, num, rt, []) :: kidRows k (ksN w) (ksR w) ∧ hdK w = k ∧ (k < 5 → ksR w = []) ∧ k ≤ 6 ∧ ∀ r ∈ ksR w, WR d r := by
  obtain ⟨k, num, rt, ns, rs, rfl, hl, h5, h6, hw⟩ := h
  have e1 := ksR_kid (k := k) (q := (k, 0, num, rt, [])) hl hw
  refine ⟨k, num, rt, ?_, rfl, fun h => by rw [e1]; exact h5 h, h6, by rw [e1]; exact hw⟩
  by_cases hk : k = 6
  · subst hk
    rw [e1, ksN_kid hl hw]
  · rw [e1]
    exact congrArg (List.cons _) (kid_names5 hk ns _ rs hl (by rw [ksN_len, e1]))
