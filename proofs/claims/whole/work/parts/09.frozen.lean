/-! worlds with a tail: explicit cells 'pre', then 'fz', the list of all cells that are never written again -/
theorem zz_Pm {D : va_G} {cl : List vw_C} {ws ws' : va_W} {H : Heap} (h : va_P D cl ws H) (hm : ∀ q ∈ ws', q ∈ ws) : va_P D cl ws' H := fun k q hq => by
  obtain ⟨j, hj⟩ := List.getElem?_of_mem (hm q (List.mem_of_getElem? hq))
  exact h j q hj
theorem zz_nd : ∀ l : List Nat, va_nd l = true ↔ l.Nodup
  | [] => by simp [va_nd]
  | a :: l => by
    have := zz_nd l
    simp [va_nd, this]
theorem zz_Dn {A : Nat → Prop} {ws : va_W} : va_D A ws ↔ (ws.map Prod.fst).Nodup ∧ ∀ q ∈ ws, A q.1 := by
  constructor
  · intro h
    refine ⟨List.pairwise_iff_getElem.mpr ?_, fun q hq => ?_⟩
    · intro i j hi hj hij he
      simp only [List.length_map] at hi hj
      simp only [List.getElem_map] at he
      have := h.1 i j ws[i] ws[j] (List.getElem?_eq_getElem hi) (List.getElem?_eq_getElem hj) he
      omega
    · obtain ⟨k, hk⟩ := List.getElem?_of_mem hq
      exact h.2 k q hk
  · intro h
    refine ⟨fun i j p q hi hj he => ?_, fun k q hk => h.2 q (List.mem_of_getElem? hk)⟩
    obtain ⟨hi1, hi2⟩ := List.getElem?_eq_some_iff.mp hi
    obtain ⟨hj1, hj2⟩ := List.getElem?_eq_some_iff.mp hj
    have hN := List.pairwise_iff_getElem.mp h.1
    rcases Nat.lt_trichotomy i j with hl | hl | hl
    · have := hN i j (by simpa using hi1) (by simpa using hj1) hl
      simp only [List.getElem_map, hi2, hj2] at this
      exact absurd he this
    · exact hl
    · have := hN j i (by simpa using hj1) (by simpa using hi1) hl
      simp only [List.getElem_map, hi2, hj2] at this
      exact absurd he.symm this
theorem zz_Dp {A : Nat → Prop} {ws ws' : va_W} (h : va_D A ws) (hp : ws'.Perm ws) : va_D A ws' := by
  rw [zz_Dn] at h ⊢
  exact ⟨((hp.map Prod.fst).nodup_iff).mpr h.1, fun q hq => h.2 q (hp.mem_iff.mp hq)⟩
theorem zz_Ds {A : Nat → Prop} {ws ws' : va_W} (h : va_D A ws) (hp : ws'.Sublist ws) : va_D A ws' := by
  rw [zz_Dn] at h ⊢
  exact ⟨h.1.sublist (hp.map Prod.fst), fun q hq => h.2 q (hp.subset hq)⟩
theorem zz_rotP {D : va_G} {cl : List vw_C} {pre fz : va_W} {n : Nat × va_E} {H : Heap} (h : va_P D cl ((pre ++ fz) ++ [n]) H) : va_P D cl (pre ++ n :: fz) H := zz_Pm h (by
  intro q hq
  simp only [List.mem_append, List.mem_cons, List.not_mem_nil, or_false] at hq ⊢
  rcases hq with h | h | h
  · exact Or.inl (Or.inl h)
  · exact Or.inr h
  · exact Or.inl (Or.inr h))
theorem zz_rotD {A : Nat → Prop} {pre fz : va_W} {n : Nat × va_E} (h : va_D A ((pre ++ fz) ++ [n])) : va_D A (pre ++ n :: fz) := zz_Dp h (List.perm_middle.trans (List.perm_append_singleton n (pre ++ fz)).symm)
theorem zz_idx {pre fz wc : va_W} {is : List Nat} (h : is.map (fun i => pre[i]?) = wc.map some) : (is ++ (List.range fz.length).map (fun i => pre.length + i)).map (fun i => (pre ++ fz)[i]?) = (wc ++ fz).map some := by
  have hlt : ∀ i ∈ is, i < pre.length := by
    intro i hi
    have h1 : pre[i]? ∈ wc.map some := by rw [← h]; exact List.mem_map.mpr ⟨i, hi, rfl⟩
    obtain ⟨x, -, hx⟩ := List.mem_map.mp h1
    exact (List.getElem?_eq_some_iff.mp hx.symm).1
  rw [List.map_append, List.map_append]
  congr 1
  · rw [← h]
    apply List.map_congr_left
    intro i hi
    exact List.getElem?_append_left (hlt i hi)
  · apply List.ext_getElem?
    intro i
    simp only [List.getElem?_map]
    by_cases hi : i < fz.length
    · simp [hi]
    · simp [hi]
theorem zz_lt {pre wc : va_W} {is : List Nat} (h : is.map (fun i => pre[i]?) = wc.map some) : ∀ i ∈ is, i < pre.length := by
  intro i hi
  have h1 : pre[i]? ∈ wc.map some := by rw [← h]; exact List.mem_map.mpr ⟨i, hi, rfl⟩
  obtain ⟨x, -, hx⟩ := List.mem_map.mp h1
  exact (List.getElem?_eq_some_iff.mp hx.symm).1
theorem zz_ndx {n m : Nat} {is : List Nat} (hn : va_nd is = true) (hl : ∀ i ∈ is, i < n) : va_nd (is ++ (List.range m).map (fun i => n + i)) = true := by
  rw [zz_nd, List.nodup_append]
  refine ⟨(zz_nd is).mp hn, ?_, ?_⟩
  · rw [List.Nodup, List.pairwise_map]
    exact List.nodup_range.imp (fun h => by omega)
  · intro a ha b hb
    obtain ⟨i, -, rfl⟩ := List.mem_map.mp hb
    have := hl a ha
    omega
theorem zz_in {pre wc : va_W} {is : List Nat} (hs : is.map (fun i => pre[i]?) = wc.map some) : ∀ q ∈ wc, q ∈ pre := by
  intro q hq
  have h1 : some q ∈ is.map (fun i => pre[i]?) := by rw [hs]; exact List.mem_map.mpr ⟨q, hq, rfl⟩
  obtain ⟨i, -, hi⟩ := List.mem_map.mp h1
  exact List.mem_of_getElem? hi
theorem zz_pickP {D : va_G} {cl : List vw_C} {pre fz wc : va_W} {H : Heap} (h : va_P D cl (pre ++ fz) H) (is : List Nat) (hs : is.map (fun i => pre[i]?) = wc.map some) : va_P D cl (wc ++ fz) H := zz_Pm h (fun q hq => by
  rcases List.mem_append.mp hq with hq | hq
  · exact List.mem_append_left _ (zz_in hs q hq)
  · exact List.mem_append_right _ hq)
theorem zz_pickD {A : Nat → Prop} {pre fz wc : va_W} (h : va_D A (pre ++ fz)) (is : List Nat) (hn : va_nd is = true) (hs : is.map (fun i => pre[i]?) = wc.map some) : va_D A (wc ++ fz) :=
  h.sub (is ++ (List.range fz.length).map (fun i => pre.length + i)) (zz_ndx hn (zz_lt hs)) (zz_idx hs)
theorem zz_free {A0 : Nat → Prop} {pre fz wc : va_W} {H0 H : Heap} {locs : List Loc} (hD : va_D A0 (pre ++ fz)) (hS : va_S A0 H0 H locs) (hA : ∀ q, H0.size ≤ q → A0 q) (is : List Nat) (hs : is.map (fun i => pre[i]?) = wc.map some) : ∀ q, va_A (wc ++ fz) H.size q → A0 q :=
  va_free hD hS hA (is ++ (List.range fz.length).map (fun i => pre.length + i)) (zz_idx hs)
/-- a call that takes the tail along -/
theorem zz_join {A0 : Nat → Prop} {D : va_G} {cl : List vw_C} {pre fz wc wr w1 : va_W} {H H1 : Heap} (hP : va_P D cl (pre ++ fz) H) (hD : va_D A0 (pre ++ fz)) (isC isR : List Nat) (hC : isC.map (fun i => pre[i]?) = wc.map some) (hR : isR.map (fun i => pre[i]?) = wr.map some) (hn : va_nd isR = true) (hdis : ∀ i ∈ isR, i ∉ isC)
    (hk : ∀ q : Nat, q < H.size → ¬ va_A (wc ++ fz) H.size q → H1[q]? = H[q]?) (hF : ∀ q, va_A (wc ++ fz) H.size q → A0 q) (hP1 : va_P D cl w1 H1) (hD1 : va_D (va_A (wc ++ fz) H.size) w1) : va_P D cl (wr ++ w1) H1 ∧ va_D A0 (wr ++ w1) := by
  refine va_join (ws := pre ++ fz) (wc := wc ++ fz) hP hD (isC ++ (List.range fz.length).map (fun i => pre.length + i)) isR (zz_idx hC) ?_ hn ?_ hk hF hP1 hD1
  · rw [← hR]
    apply List.map_congr_left
    intro i hi
    exact List.getElem?_append_left (zz_lt hR i hi)
  · intro i hi h
    rcases List.mem_append.mp h with h | h
    · exact hdis i hi h
    · obtain ⟨j, -, hj⟩ := List.mem_map.mp h
      have := zz_lt hR i hi
      omega
/-- a call that leaves the tail alone -/
theorem zz_joinN {A0 : Nat → Prop} {D : va_G} {cl : List vw_C} {pre fz wc wr w1 : va_W} {H H1 : Heap} (hP : va_P D cl (pre ++ fz) H) (hD : va_D A0 (pre ++ fz)) (isC isR : List Nat) (hC : isC.map (fun i => pre[i]?) = wc.map some) (hR : isR.map (fun i => pre[i]?) = wr.map some) (hn : va_nd isR = true) (hdis : ∀ i ∈ isR, i ∉ isC)
    (hk : ∀ q : Nat, q < H.size → ¬ va_A wc H.size q → H1[q]? = H[q]?) (hF : ∀ q, va_A wc H.size q → A0 q) (hP1 : va_P D cl w1 H1) (hD1 : va_D (va_A wc H.size) w1) : va_P D cl ((wr ++ w1) ++ fz) H1 ∧ va_D A0 ((wr ++ w1) ++ fz) := by
  have hl := zz_lt hC
  obtain ⟨h1, h2⟩ := va_join (ws := pre ++ fz) (wc := wc) (wr := wr ++ fz) hP hD isC (isR ++ (List.range fz.length).map (fun i => pre.length + i)) (by
    rw [← hC]
    apply List.map_congr_left
    intro i hi
    exact List.getElem?_append_left (hl i hi)) (zz_idx hR) (zz_ndx hn (zz_lt hR)) (by
    intro i hi h
    rcases List.mem_append.mp hi with hi | hi
    · exact hdis i hi h
    · obtain ⟨j, -, hj⟩ := List.mem_map.mp hi
      have := hl i h
      omega) hk hF hP1 hD1
  have hp : ((wr ++ w1) ++ fz).Perm ((wr ++ fz) ++ w1) := by
    rw [List.append_assoc, List.append_assoc]
    exact List.Perm.append_left wr List.perm_append_comm
  exact ⟨zz_Pm h1 (fun q hq => hp.mem_iff.mp hq), zz_Dp h2 hp⟩
/-- a cell of the tail, by itself -/
theorem zz_one {D : va_G} {cl : List vw_C} {ws : va_W} {H : Heap} {q : Nat × va_E} (h : va_P D cl ws H) (hm : q ∈ ws) : va_P D cl [q] H := zz_Pm h (fun x hx => by rw [List.mem_singleton] at hx; exact hx ▸ hm)
