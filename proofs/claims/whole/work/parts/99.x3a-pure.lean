theorem no_some {α : Type} {o : Option α} {q : α} (h1 : o = none) (h2 : o = some q) : False := by rw [h1] at h2; cases h2
theorem nuP_b1 {R : List Nat} (h : ixp R = none) : nuP R = none := by unfold nuP; rw [h]; rfl
theorem nuP_el {R R1 : List Nat} {v : Int} (h : ixp R = some (some v, R1)) (h1 : ¬ hd0 R1 = 58) : nuP R = some ((2, [], (some v, none, none), tst0), R1) := by
  unfold nuP
  rw [h, Option.bind_some, if_neg h1]; rfl
theorem nuP_no {R R1 : List Nat} (h : ixp R = some (none, R1)) (h1 : ¬ hd0 R1 = 58) : nuP R = none := by
  unfold nuP
  rw [h, Option.bind_some, if_neg h1]; rfl
theorem nuP_b2 {R R1 : List Nat} {o1 : Option Int} (h : ixp R = some (o1, R1)) (h1 : hd0 R1 = 58) (h2 : ixp (R1.drop 1) = none) : nuP R = none := by
  unfold nuP
  rw [h, Option.bind_some, if_pos h1, h2]; rfl
theorem nuP_s2 {R R1 R2 : List Nat} {o1 o2 : Option Int} (h : ixp R = some (o1, R1)) (h1 : hd0 R1 = 58) (h2 : ixp (R1.drop 1) = some (o2, R2)) (h3 : ¬ hd0 R2 = 58) : nuP R = some ((3, [], (o1, o2, none), tst0), R2) := by
  unfold nuP
  rw [h, Option.bind_some, if_pos h1, h2, Option.bind_some, if_neg h3]
theorem nuP_b3 {R R1 R2 : List Nat} {o1 o2 : Option Int} (h : ixp R = some (o1, R1)) (h1 : hd0 R1 = 58) (h2 : ixp (R1.drop 1) = some (o2, R2)) (h3 : hd0 R2 = 58) (h4 : ixp (R2.drop 1) = none) : nuP R = none := by
  unfold nuP
  rw [h, Option.bind_some, if_pos h1, h2, Option.bind_some, if_pos h3, h4]; rfl
theorem nuP_s3 {R R1 R2 R3 : List Nat} {o1 o2 o3 : Option Int} (h : ixp R = some (o1, R1)) (h1 : hd0 R1 = 58) (h2 : ixp (R1.drop 1) = some (o2, R2)) (h3 : hd0 R2 = 58) (h4 : ixp (R2.drop 1) = some (o3, R3)) : nuP R = some ((3, [], (o1, o2, o3), tst0), R3) := by
  unfold nuP
  rw [h, Option.bind_some, if_pos h1, h2, Option.bind_some, if_pos h3, h4]; rfl
theorem chN {s : Sel} : chX none s = [] := rfl
theorem chs_no5 {x : Plc} {a b c : Option Int} (h : ¬ hdK x.2 = 5) : chX (some x) (3, [], (a, b, c), tst0) = [] := by
  show chs (3, [], (a, b, c), tst0) x = []
  rw [chs3, if_neg h]
theorem chs_0 {x : Plc} {a b c : Option Int} (h : c.getD 1 = 0) : chX (some x) (3, [], (a, b, c), tst0) = [] := by
  show chs (3, [], (a, b, c), tst0) x = []
  rw [chs3]
  split
  · unfold slc; rw [if_pos h]; rfl
  · rfl
theorem chs_5 {x : Plc} {a b c : Option Int} (h : hdK x.2 = 5) : chX (some x) (3, [], (a, b, c), tst0) = (slc (ksR x.2).length a b (some (c.getD 1))).map (kidL x) := by
  show chs (3, [], (a, b, c), tst0) x = _
  rw [chs3, if_pos h, ← slc_c]
theorem rng_1 {o : Option Int} (h1 : -999 ≤ o.getD 0) (h2 : o.getD 0 ≤ 999) : -999 ≤ o.getD 1 ∧ o.getD 1 ≤ 999 := by
  cases o with
  | none => exact ⟨by decide, by decide⟩
  | some v => exact ⟨h1, h2⟩
theorem iI_ne0 {v : Int} (h1 : -2 ^ 31 ≤ v) (h2 : v < 2 ^ 31) (h : ¬ iI v = 0) : ¬ v = 0 := fun h9 => h (by rw [h9]; rfl)
theorem iI_eq0 {v : Int} (h1 : -2 ^ 31 ≤ v) (h2 : v < 2 ^ 31) (h : iI v = 0) : v = 0 := by
  have h9 := congrArg Int32.toInt h
  rw [iI_toInt h1 h2] at h9
  exact h9
theorem nuP_bad {R : List Nat} (h1 : ¬ hd0 R = 45) (h2 : ¬ hd0 R = 58) (h3 : isDig (hd0 R) = false) : nuP R = none := by
  refine nuP_no (R1 := R) ?_ h2
  unfold ixp
  rw [if_neg (fun h => by rw [h] at h3; exact absurd h3 (by decide)), if_neg h1, if_neg (by rw [h3]; decide)]
theorem slP_all {R : List Nat} (h : hd0 R = 42) : slP R = some (slA, R.drop 1) := by unfold slP; rw [if_pos h]
theorem slP_tst {R : List Nat} (h : hd0 R = 63) : slP R = (tsP (R.drop 1)).map (fun q => ((4, [], (none, none, none), q.1), q.2)) := by unfold slP; rw [if_neg (by omega), if_pos h]
theorem slP_quo {R : List Nat} {k : Nat} (h : hd0 R = k) (hk : k = 34 ∨ k = 39) : slP R = (qtd k (R.drop 1)).map (fun q => (slN q.1, q.2)) := by unfold slP; rw [h, if_neg (by omega), if_neg (by omega), if_pos hk]
theorem slP_num {R : List Nat} (h1 : ¬ hd0 R = 42) (h2 : ¬ hd0 R = 63) (h3 : ¬ hd0 R = 34) (h4 : ¬ hd0 R = 39) : slP R = nuP R := by unfold slP; rw [if_neg h1, if_neg h2, if_neg (by omega)]
theorem chs0X {xo : Option Plc} : chX xo slA = kidX xo := by cases xo <;> rfl
theorem map_inv {α β : Type} {o : Option α} {g : α → β} {q : β} (h : o.map g = some q) : ∃ p, o = some p ∧ g p = q := Option.map_eq_some_iff.mp h
theorem slsP_bad {n : Nat} {R : List Nat} (h : slP (skp R) = none) : slsP (n + 1) R = none := by rw [slsP, h]; rfl
theorem slsP_end {n : Nat} {R R1 : List Nat} {s : Sel} (h : slP (skp R) = some (s, R1)) (h1 : hd0 (skp R1) = 93) : slsP (n + 1) R = some ([s], (skp R1).drop 1) := by rw [slsP, h, Option.bind_some, if_pos h1]
theorem slsP_more {n : Nat} {R R1 : List Nat} {s : Sel} (h : slP (skp R) = some (s, R1)) (h1 : hd0 (skp R1) = 44) : slsP (n + 1) R = (slsP n ((skp R1).drop 1)).map (fun z => (s :: z.1, z.2)) := by rw [slsP, h, Option.bind_some, if_neg (fun h9 => by have h8 : hd0 (skp R1) = 93 := h9; omega), if_pos h1]
theorem slsP_no {n : Nat} {R R1 : List Nat} {s : Sel} (h : slP (skp R) = some (s, R1)) (h1 : ¬ hd0 (skp R1) = 93) (h2 : ¬ hd0 (skp R1) = 44) : slsP (n + 1) R = none := by rw [slsP, h, Option.bind_some, if_neg h1, if_neg h2]
theorem sls_app {o : Option (List Sel × List Nat)} {ss : List Sel} {s : Sel} : (o.map (fun z => (s :: z.1, z.2))).map (fun q => (ss ++ q.1, q.2)) = o.map (fun q => ((ss ++ [s]) ++ q.1, q.2)) := by
  cases o with
  | none => rfl
  | some z => simp
theorem sls_id {o : Option (List Sel × List Nat)} : o = o.map (fun q => ([] ++ q.1, q.2)) := by cases o <;> rfl
theorem sls_some {n : Nat} {R : List Nat} {g : List Sel × List Nat → List Sel × List Nat} {q : List Sel × List Nat} (h : some q = (slsP (n + 1) R).map g) : ∃ s R1, slP (skp R) = some (s, R1) := by
  cases hs : slP (skp R) with
  | none => rw [slsP_bad hs] at h; cases h
  | some z => exact ⟨z.1, z.2, rfl⟩
theorem chP_sls {R : List Nat} (h : hd0 R = 91) : chP R = slsP 160 (R.drop 1) := by unfold chP; rw [if_pos h]
theorem chP_all {R : List Nat} (h : hd0 R = 42) : chP R = some ([slA], R.drop 1) := by unfold chP snP; rw [if_neg (by omega), if_pos h]
theorem chP_nm {R : List Nat} (h1 : ¬ hd0 R = 91) (h2 : ¬ hd0 R = 42) : chP R = (nmP R).map (fun q => ([slN q.1], q.2)) := by unfold chP snP; rw [if_neg h1, if_neg h2]
theorem chAX_1 {xo : Option Plc} {s : Sel} : chAX xo [s] = chX xo s := by
  have h := chAX_snoc (xo := xo) (ss := []) (s := s)
  rw [chAX_nil] at h
  exact h
theorem sgm_dd {R : List Nat} (h1 : hd0 R = 46) (h2 : hd0 (R.drop 1) = 46) : sgmP R = (chP (R.drop 2)).map (fun q => ((true, q.1), q.2)) := by unfold sgmP; rw [if_pos h1, if_pos h2]
theorem sgm_d {R : List Nat} (h1 : hd0 R = 46) (h2 : ¬ hd0 (R.drop 1) = 46) (h3 : ¬ hd0 (R.drop 1) = 91) : sgmP R = (chP (R.drop 1)).map (fun q => ((false, q.1), q.2)) := by unfold sgmP chP; rw [if_pos h1, if_neg h2, if_neg h3]
theorem sgm_db {R : List Nat} (h1 : hd0 R = 46) (h3 : hd0 (R.drop 1) = 91) : sgmP R = none := by
  unfold sgmP snP nmP
  rw [if_pos h1, if_neg (by omega), if_neg (by omega), h3, if_neg (by decide)]; rfl
theorem sgm_b {R : List Nat} (h1 : hd0 R = 91) : sgmP R = (chP R).map (fun q => ((false, q.1), q.2)) := by unfold sgmP chP; rw [if_neg (by omega), if_pos h1, if_pos h1]
theorem sgm_no {R : List Nat} (h1 : ¬ hd0 R = 46) (h2 : ¬ hd0 R = 91) : sgmP R = none := by unfold sgmP; rw [if_neg h1, if_neg h2]
theorem NX_0 {nx : Nat → Int32} {bs : Nat} : NX 0 0 nx bs [] := Or.inl ⟨rfl, Nat.zero_le _, rfl, fun k hk => absurd hk (Nat.not_lt_zero _)⟩
theorem NX.nil {fu fo : Int32} {nx : Nat → Int32} {bs : Nat} (h : NX fu fo nx bs []) : fu = 0 ∧ fo = 0 := by
  rcases h with ⟨h1, h2, h3, h4⟩ | ⟨h1, h2, h3⟩
  · exact ⟨h1, h3⟩
  · exact absurd h3 (by decide)
/-- the model's list holds these places -/
def LSF (lsf : Nat → Int32) (bs : Nat) (ls : List Plc) : Prop := ∀ k, k < ls.length → lsf k = nI (bs + (ls.getD k (0, [])).1)
def its (dj : Bool) (x : Plc) : List Plc := if dj = true then dsc 12 x else [x]
theorem evS_its {dj : Bool} {ss : List Sel} {x : Plc} : evS (dj, ss) x = (its dj x).flatMap (chA ss) := by
  unfold evS its
  cases dj with
  | true => rfl
  | false => simp
theorem its_len {w : List Row} {dj : Bool} {x : Plc} (h : LOK w x) : (its dj x).length = (if dj = true then x.2.length else 1) ∧ (∀ j, j < (its dj x).length → ((its dj x).getD j (0, [])).1 = x.1 + j) ∧ ∀ z ∈ its dj x, LOK w z := by
  have hl := h
  obtain ⟨l, nm, e, hs, hw, he⟩ := h
  unfold its
  cases dj with
  | false =>
    refine ⟨rfl, fun j hj => ?_, fun z hz => ?_⟩
    · have hj : j < 1 := hj
      have : j = 0 := by omega
      subst this; rfl
    · rw [List.mem_singleton.mp hz]; exact hl
  | true =>
    have h1 := dsc_up _ 12 x hw he
    have h2 := dsc_rows _ x hw
    show (dsc 12 x).length = _ ∧ _
    refine ⟨by rw [h1, h2.1]; rfl, fun j hj => ?_, fun z hz => lok_dsc hl z hz⟩
    have hj : j < (dsc 12 x).length := hj
    show ((dsc 12 x).getD j (0, [])).1 = _
    rw [h1] at hj ⊢
    exact h2.2 j (by rw [← h2.1]; exact hj)
theorem evL_take {sg : Sgm} {ls : List Plc} {k : Nat} (h : k < ls.length) : evL sg (ls.take (k + 1)) = evL sg (ls.take k) ++ evS sg (ls.getD k (0, [])) := by
  unfold evL
  rw [List.take_succ_eq_append_getElem h, List.flatMap_append]
  simp [List.getD_eq_getElem?_getD, List.getElem?_eq_getElem h]
theorem fm_take {ys : List Plc} {ss : List Sel} {j : Nat} (h : j < ys.length) : (ys.take (j + 1)).flatMap (chA ss) = (ys.take j).flatMap (chA ss) ++ chA ss (ys.getD j (0, [])) := by
  rw [List.take_succ_eq_append_getElem h, List.flatMap_append]
  simp [List.getD_eq_getElem?_getD, List.getElem?_eq_getElem h]
theorem fm_rest {ys : List Plc} {ss : List Sel} {j : Nat} : ys.flatMap (chA ss) = (ys.take j).flatMap (chA ss) ++ (ys.drop j).flatMap (chA ss) := by
  rw [← List.flatMap_append, List.take_append_drop]
theorem getD_mem {ys : List Plc} {j : Nat} (h : j < ys.length) : ys.getD j (0, []) ∈ ys := by
  rw [List.getD_eq_getElem?_getD, List.getElem?_eq_getElem h]
  exact List.getElem_mem h
theorem lok_end {w : List Row} {x : Plc} (h : LOK w x) : bhd (lvR w) w.length (lvR w x.1) (x.1 + 1) = x.1 + x.2.length := by
  obtain ⟨l, nm, e, hs, hw, he⟩ := h
  obtain ⟨k, num, rt, ee, hk, hk5, hk6, hws⟩ := wr_parts hw
  have hs2 : SUB w x.1 l nm ((k, 0, num, rt, []) :: kidRows k (ksN x.2) (ksR x.2)) := ee ▸ hs
  have hw2 : WR (e + 1) ((k, 0, num, rt, []) :: kidRows k (ksN x.2) (ksR x.2)) := ee ▸ hw
  have h1 := hs2.end_ hw2 (ksN_len x.2)
  have h4 : x.2.length = 1 + slen (ksR x.2) := by have h9 := congrArg List.length ee; rw [List.length_cons, len_kids k _ _ (ksN_len x.2)] at h9; omega
  omega
theorem lok_in {w : List Row} {x : Plc} (h : LOK w x) : x.1 + x.2.length ≤ w.length ∧ 0 < x.2.length := by
  obtain ⟨l, nm, e, hs, hw, he⟩ := h
  exact ⟨hs.le, wr_pos hw⟩
theorem nI_sub1 {a : Nat} : nI (a + 1) - 1 = nI a := by rw [← nI_1 a]; exact Int32.add_sub_cancel _ _
theorem nI_subn {a : Nat} (h : 1 ≤ a) : nI a - 1 = nI (a - 1) := by
  obtain ⟨b, rfl⟩ : ∃ b, a = b + 1 := ⟨a - 1, by omega⟩
  rw [show b + 1 - 1 = b by omega]; exact nI_sub1
theorem NX.cnt {fu fo : Int32} {nx : Nat → Int32} {bs : Nat} {LS : List Plc} (h : NX fu fo nx bs LS) : ∃ n, n ≤ 40 ∧ fo = nI n ∧ (fu = 0 → LS.length = n ∧ LSF nx bs LS) ∧ (fu = 0 ∨ (fu = 1 ∧ 40 < LS.length)) := by
  rcases h with ⟨h1, h2, h3, h4⟩ | ⟨h1, h2, h3⟩
  · exact ⟨LS.length, h2, h3, fun _ => ⟨rfl, h4⟩, Or.inl h1⟩
  · exact ⟨40, Nat.le_refl _, h2, fun h => (by rw [h1] at h; exact absurd h (by decide)), Or.inr ⟨h1, h3⟩⟩
theorem seg_inv {dj d0 : Bool} {o : Option (List Sel × List Nat)} {ss : List Sel} {R8 : List Nat} {g : Option (Sgm × List Nat)} (h : g = some ((d0, ss), R8)) (h1 : g = o.map (fun q => ((dj, q.1), q.2))) : dj = d0 ∧ o = some (ss, R8) := by
  obtain ⟨q, h2, h3⟩ := map_inv (h1.symm.trans h)
  obtain ⟨e1, e2⟩ := Prod.mk.inj h3
  obtain ⟨e3, e4⟩ := Prod.mk.inj e1
  exact ⟨e3, by rw [h2, ← e2, ← e4]⟩
theorem evL_full {sg : Sgm} {lz : List Plc} {k : Nat} (h : lz.length ≤ k) : evL sg (lz.take k) = evL sg lz := by rw [List.take_of_length_le h]
theorem LSF.app {f g : Nat → Int32} {bs n : Nat} {lz : List Plc} (h : LSF f bs lz) (hn : lz.length = n) (hg : ∀ k, k < n → g k = f k) : LSF g bs lz := fun k hk => by rw [hg k (by omega)]; exact h k hk
theorem upd_all {f g : Nat → Int32} {t : Nat} (h : ∀ k, k < t → g k = f k) : ∀ k, k < t + 1 → upd g t (f t) k = f k := by
  intro k hk
  by_cases h1 : k = t
  · rw [h1, upd_eq]
  · rw [upd_ne h1]; exact h k (by omega)
theorem hd_0 {L : List Nat} : hd0 L = L.getD 0 0 := by cases L <;> rfl
theorem pth_1 {L : List Nat} (h : L.getD 0 0 = 36) : pth L = pthS 160 (L.drop 1) := by unfold pth; rw [if_pos (hd_0.trans h)]
theorem pth_0 {L : List Nat} (h : ¬ L.getD 0 0 = 36) : pth L = none := by unfold pth; rw [if_neg (fun h9 => h (hd_0.symm.trans h9))]
theorem pthS_end {n : Nat} {L : List Nat} {b : Nat} (h : L.length ≤ b) : pthS (n + 1) (L.drop b) = some [] := by rw [List.drop_eq_nil_of_le h, pthS, if_pos rfl]
theorem drop_ne {L : List Nat} {b : Nat} (h : b < L.length) : ¬ L.drop b = [] := fun h9 => by
  have := congrArg List.length h9
  rw [List.length_drop, List.length_nil] at this
  omega
theorem pthS_bad {n : Nat} {L : List Nat} {b : Nat} (h : b < L.length) (h1 : sgmP (L.drop b) = none) : pthS (n + 1) (L.drop b) = none := by rw [pthS, if_neg (drop_ne h), h1]; rfl
theorem pthS_go {n : Nat} {L : List Nat} {b : Nat} {sg : Sgm} {R : List Nat} (h : b < L.length) (h1 : sgmP (L.drop b) = some (sg, R)) : pthS (n + 1) (L.drop b) = (pthS n R).map (fun z => sg :: z) := by rw [pthS, if_neg (drop_ne h), h1]; rfl
theorem pth_app {o : Option (List Sgm)} {sg : Sgm} {dn : List Sgm} : (o.map (fun z => sg :: z)).map (fun z => dn ++ z) = o.map (fun z => (dn ++ [sg]) ++ z) := by
  cases o with
  | none => rfl
  | some z => simp
theorem pth_id {o : Option (List Sgm)} : o = o.map (fun z => [] ++ z) := by cases o <;> rfl
theorem pthS_inv {n : Nat} {L : List Nat} {b : Nat} {rs : List Sgm} (h : b < L.length) (h1 : pthS (n + 1) (L.drop b) = some rs) : ∃ d0 ss R8 r1, sgmP (L.drop b) = some ((d0, ss), R8) ∧ rs = (d0, ss) :: r1 ∧ pthS n R8 = some r1 := by
  cases hs : sgmP (L.drop b) with
  | none => rw [pthS_bad h hs] at h1; cases h1
  | some q =>
    obtain ⟨⟨d0, ss⟩, R8⟩ := q
    rw [pthS_go h hs] at h1
    obtain ⟨r1, h2, h3⟩ := map_inv h1
    exact ⟨d0, ss, R8, r1, rfl, h3.symm, h2⟩
theorem eva_full {sg : Sgm} {rs : List Sgm} {lz : List Plc} (h : 40 < (evL sg lz).length) : eva (sg :: rs) lz = none := by rw [eva, if_pos h]
theorem eva_go {sg : Sgm} {rs : List Sgm} {lz : List Plc} (h : (evL sg lz).length ≤ 40) : eva (sg :: rs) lz = eva rs (evL sg lz) := by rw [eva, if_neg (by omega)]
theorem LSF_1 {lsf : Nat → Int32} {bs : Nat} {w : List Row} : LSF (upd lsf 0 (nI bs)) bs [(0, w)] := fun k hk => by
  have hk : k < 1 := hk
  obtain rfl : k = 0 := by omega
  rw [upd_eq]; rfl
theorem nI_subb {b x : Nat} : nI (b + x) - nI b = nI x := by
  rw [show nI (b + x) = nI b + nI x from (nI_add b x).symm, Int32.add_comm]; exact Int32.add_sub_cancel _ _
theorem upd_is {f : Nat → Int32} {t : Nat} {v : Int32} {g : Nat → Int32} (h : ∀ k, k < t → f k = g k) (hv : v = g t) : ∀ k, k < t + 1 → upd f t v k = g k := by
  intro k hk
  by_cases h1 : k = t
  · rw [h1, upd_eq, hv]
  · rw [upd_ne h1]; exact h k (by omega)
