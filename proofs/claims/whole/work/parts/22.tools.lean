/-! more tools: the goal of a walk by a name, frozen cells, the draft's letters -/
theorem zz_nQ {p : Program} {l : Launch} {e : Env} {R : Room} {s : State} {m : MethodId} {args : Array Value} {below : List Frame} {meth : Method} {c : Code} {H : Heap} {locs : List Loc} {cells slots : Nat} {Q0 : State → Prop} {g : JFrame} (h : ∀ Q : State → Prop, Q = Q0 → W p l e R s m args below meth c H locs cells slots Q g) : W p l e R s m args below meth c H locs cells slots Q0 g := h Q0 rfl
theorem zz_tlP {D : va_G} {cl : List vw_C} {pre tl : va_W} {H : Heap} (h : va_P D cl (pre ++ tl) H) : va_P D cl ([] ++ tl) H := zz_Pm h (fun q hq => List.mem_append_right _ hq)
theorem zz_recv {s : State} {H : Heap} {D : va_G} {cl : List vw_C} {tys : List (ClassId × FieldType)} {ws : va_W} {a ci : Nat} {fs : List Value} {r : vw_C} (hK : va_K D cl tys s) (hP : va_P D cl ws H) (hc : cl[ci]? = some r) (hm : (a, Sum.inr (ci, fs)) ∈ ws) : ∃ cell : Cell, H[a]? = some cell ∧ cell.vm.isStatics = false ∧ s.vm.findClass r.1 = some cell.cls := by
  obtain ⟨q0, he⟩ := List.getElem?_of_mem hm
  exact va_recv hK hP hc he
/-- the tail in another order -/
theorem zz_permP {D : va_G} {cl : List vw_C} {pre t1 t2 : va_W} {H : Heap} (h : va_P D cl (pre ++ t1) H) (hp : t2.Perm t1) : va_P D cl (pre ++ t2) H := zz_Pm h (fun q hq => ((hp.append_left pre).mem_iff).mp hq)
theorem zz_permD {A : Nat → Prop} {pre t1 t2 : va_W} (h : va_D A (pre ++ t1)) (hp : t2.Perm t1) : va_D A (pre ++ t2) := zz_Dp h (hp.append_left pre)
/-- the letters of the draft, as the array holds them -/
def Drf (L : List Nat) (f : Nat → Int32) : Prop := L.length ≤ 160 ∧ (∀ c ∈ L, 32 ≤ c ∧ c < 127) ∧ ∀ i, i < L.length → f i = nI (L.getD i 0)
theorem Drf.lt {L : List Nat} {f : Nat → Int32} (h : Drf L f) (i : Nat) : L.getD i 0 < 127 := by
  by_cases hi : i < L.length
  · rw [List.getD_eq_getElem?_getD, List.getElem?_eq_getElem hi]
    exact (h.2.1 _ (List.getElem_mem hi)).2
  · rw [List.getD_eq_getElem?_getD, List.getElem?_eq_none (by omega)]
    decide
theorem Drf.ge {L : List Nat} {f : Nat → Int32} (h : Drf L f) (i : Nat) (hi : i < L.length) : 32 ≤ L.getD i 0 := by
  rw [List.getD_eq_getElem?_getD, List.getElem?_eq_getElem hi]
  exact (h.2.1 _ (List.getElem_mem hi)).1
theorem getD_end {L : List Nat} {i : Nat} (h : L.length ≤ i) : L.getD i 0 = 0 := by
  rw [List.getD_eq_getElem?_getD, List.getElem?_eq_none h]; rfl
theorem drop_cons {L : List Nat} {i : Nat} (h : i < L.length) : L.drop i = L.getD i 0 :: L.drop (i + 1) := by
  rw [List.getD_eq_getElem?_getD, List.getElem?_eq_getElem h]
  exact List.drop_eq_getElem_cons h
theorem drop_head {L : List Nat} {i : Nat} : (L.drop i).getD 0 0 = L.getD i 0 := by
  simp [List.getD_eq_getElem?_getD]
/-- behind the blanks -/
def skp : List Nat → List Nat
  | [] => []
  | c :: R => if c = 32 then skp R else c :: R
/-- what stands ahead; 0 at the end -/
def hd0 (R : List Nat) : Nat := R.getD 0 0
/-- a string behind its first mark: its letters and what stands behind its last mark -/
def qtd (mk : Nat) : List Nat → Option (List Nat × List Nat)
  | [] => none
  | c :: R => if c = mk then some ([], R) else if c = 92 then (match R with
      | [] => none
      | d :: R' => if d = mk ∨ d = 92 ∨ d = 47 then (qtd mk R').map (fun q => (d :: q.1, q.2)) else none)
    else (qtd mk R).map (fun q => (c :: q.1, q.2))
def isDig (c : Nat) : Bool := decide (48 ≤ c) && decide (c ≤ 57)
def isLet (c : Nat) : Bool := (decide (97 ≤ c) && decide (c ≤ 122)) || (decide (65 ≤ c) && decide (c ≤ 90)) || decide (c = 95)
def bI (b : Bool) : Int32 := if b then 1 else 0
theorem bI_t : bI true = 1 := rfl
theorem bI_f : bI false = 0 := rfl
