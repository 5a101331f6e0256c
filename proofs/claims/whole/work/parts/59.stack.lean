/-! the model's arrays came and closer hold the stack of tel -/
def STK (st : List (Nat × Bool)) (cm cl : Nat → Int32) (bd : Nat) : Prop := st.length ≤ 12 ∧ ∀ d, d < st.length → ∃ (x : Nat) (q : Nat × Bool), st[st.length - 1 - d]? = some q ∧ cl d = nI q.1 ∧ q.1 < 128 ∧ cm d = nI x ∧ x ≤ bd ∧ (q.2 = true ↔ 0 < x)
theorem STK.nil {cm cl : Nat → Int32} {bd : Nat} : STK [] cm cl bd := ⟨by decide, fun d hd => absurd hd (Nat.not_lt_zero _)⟩
theorem STK.up {st : List (Nat × Bool)} {cm cl : Nat → Int32} {bd b2 : Nat} (h : STK st cm cl bd) (hb : bd ≤ b2) : STK st cm cl b2 := ⟨h.1, fun d hd => by
  obtain ⟨x, q, h1, h2, h3, h4, h5, h6⟩ := h.2 d hd
  exact ⟨x, q, h1, h2, h3, h4, by omega, h6⟩⟩
theorem STK.pop {c : Nat} {b : Bool} {s : List (Nat × Bool)} {cm cl : Nat → Int32} {bd : Nat} (h : STK ((c, b) :: s) cm cl bd) : STK s cm cl bd := by
  have h0 : s.length + 1 ≤ 12 := h.1
  refine ⟨by omega, fun d hd => ?_⟩
  obtain ⟨x, q, h1, h2⟩ := h.2 d (by simp only [List.length_cons]; omega)
  refine ⟨x, q, ?_, h2⟩
  rw [show ((c, b) :: s).length - 1 - d = (s.length - 1 - d) + 1 by simp only [List.length_cons]; omega, List.getElem?_cons_succ] at h1
  exact h1
theorem STK.top {c : Nat} {b : Bool} {s : List (Nat × Bool)} {cm cl : Nat → Int32} {bd : Nat} (h : STK ((c, b) :: s) cm cl bd) : ∃ x, cl s.length = nI c ∧ c < 128 ∧ cm s.length = nI x ∧ x ≤ bd ∧ (b = true ↔ 0 < x) := by
  obtain ⟨x, q, h1, h2, h3, h4, h5, h6⟩ := h.2 s.length (by simp)
  rw [show ((c, b) :: s).length - 1 - s.length = 0 by simp] at h1
  cases h1
  exact ⟨x, h2, h3, h4, h5, h6⟩
theorem STK.push {st : List (Nat × Bool)} {cm cl : Nat → Int32} {bd : Nat} (h : STK st cm cl bd) (hl : st.length < 12) {c : Nat} (hc : c < 128) : STK ((c, false) :: st) (upd cm st.length 0) (upd cl st.length (nI c)) bd := by
  refine ⟨by simp only [List.length_cons]; omega, fun d hd => ?_⟩
  simp only [List.length_cons] at hd
  by_cases hds : d = st.length
  · subst hds
    refine ⟨0, (c, false), by simp, by simp [upd], hc, (by simp only [upd, if_true]; rfl), Nat.zero_le _, by simp⟩
  · obtain ⟨x, q, h1, h2, h3, h4, h5, h6⟩ := h.2 d (by omega)
    refine ⟨x, q, ?_, by simp only [upd, if_neg hds]; exact h2, h3, by simp only [upd, if_neg hds]; exact h4, h5, h6⟩
    rw [show ((c, false) :: st).length - 1 - d = (st.length - 1 - d) + 1 by simp only [List.length_cons]; omega, List.getElem?_cons_succ]
    exact h1
theorem STK.mark {c : Nat} {b : Bool} {s : List (Nat × Bool)} {cm cl : Nat → Int32} {bd x : Nat} (h : STK ((c, b) :: s) cm cl bd) (hx : cm s.length = nI x) (hxb : x ≤ bd) : STK ((c, true) :: s) (upd cm s.length (nI (x + 1))) cl (bd + 1) := by
  refine ⟨h.1, fun d hd => ?_⟩
  simp only [List.length_cons] at hd
  by_cases hds : d = s.length
  · subst hds
    obtain ⟨_, g1, g2, _⟩ := h.top
    exact ⟨x + 1, (c, true), by simp, g1, g2, by simp [upd], by omega, by simp⟩
  · obtain ⟨x2, q, h1, h2, h3, h4, h5, h6⟩ := h.2 d (by simp only [List.length_cons]; omega)
    refine ⟨x2, q, ?_, h2, h3, by simp only [upd, if_neg hds]; exact h4, by omega, h6⟩
    rw [show ((c, b) :: s).length - 1 - d = (s.length - 1 - d) + 1 by simp only [List.length_cons]; omega, List.getElem?_cons_succ] at h1
    rw [show ((c, true) :: s).length - 1 - d = (s.length - 1 - d) + 1 by simp only [List.length_cons]; omega, List.getElem?_cons_succ]
    exact h1
/-- no row stands deeper than the brackets that are open -/
def nvz : List (Nat × Bool) → List Row → Prop
  | _, [] => True
  | st, q :: r => q.2.1 ≤ st.length ∧ (5 ≤ q.1 → q.2.1 < 12) ∧ nvz (pushS q.1 (markS (st.drop (st.length - q.2.1)))) r
