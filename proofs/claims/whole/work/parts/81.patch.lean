/-! patches: where a pointer leads, and what the document is after a change; on rows -/
def wnum (s : List Nat) : Option Nat := if s.length = 0 ∨ 3 < s.length ∨ (1 < s.length ∧ s.getD 0 0 = 48) then none else if s.all isDig then some (s.foldl (fun v c => 10 * v + (c - 48)) 0) else none
def elm (w : List Row) (v : Option Nat) : Option Nat := v.bind (fun v => if v < (ksR w).length then some v else none)
/-- the place of the part that a step leads to -/
def stp (w : List Row) (s : List Nat) : Option Nat := if hdK w = 6 then nix s (ksN w) else if hdK w = 5 then elm w (wnum s) else none
/-- what steps lead to -/
def trg : List (List Nat) → List Row → Option (List Row)
  | [], w => some w
  | s :: ss, w => (stp w s).bind (fun t => trg ss ((ksR w).getD t []))
/-- and the place of its row -/
def trp : List (List Nat) → List Row → Nat → Option Nat
  | [], _, i => some i
  | s :: ss, w, i => (stp w s).bind (fun t => trp ss ((ksR w).getD t []) (i + 1 + slen ((ksR w).take t)))
/-- the document where so many parts at t gave way to others -/
def spc (w : List Row) (t out : Nat) (ins : List (List Nat × List Row)) : List Row := match w with
  | [] => []
  | q :: _ => q :: kidRows q.1 ((ksN w).take t ++ (ins.map Prod.fst ++ (ksN w).drop (t + out))) ((ksR w).take t ++ (ins.map Prod.snd ++ (ksR w).drop (t + out)))
theorem spc_of {w : List Row} {q : Row} {r : List Row} {t out : Nat} {ins : List (List Nat × List Row)} (e : w = q :: r) : spc w t out ins = q :: kidRows q.1 ((ksN w).take t ++ (ins.map Prod.fst ++ (ksN w).drop (t + out))) ((ksR w).take t ++ (ins.map Prod.snd ++ (ksR w).drop (t + out))) := by
  subst e; rfl
/-- where an add puts it -/
def plc (w : List Row) (s : List Nat) : Option Nat := if hdK w = 6 then some ((nix s (ksN w)).getD (ksR w).length) else if hdK w = 5 then (if s = [45] then some (ksR w).length else (wnum s).bind (fun v => if v ≤ (ksR w).length then some v else none)) else none
/-- the last step of a change: 1 add, 2 remove, 3 replace -/
def ed1 (kd : Nat) (v : List Row) (s : List Nat) (w : List Row) : Option (List Row) :=
  if kd = 1 then (plc w s).map (fun t => if hdK w = 5 ∨ t = (ksR w).length then spc w t 0 [(s, v)] else spc w t 1 [((ksN w).getD t [], v)])
  else (stp w s).map (fun t => if kd = 2 then spc w t 1 [] else spc w t 1 [((ksN w).getD t [], v)])
def edt (kd : Nat) (v : List Row) : List (List Nat) → List Row → Option (List Row)
  | [], _ => if kd = 2 then none else some v
  | s :: ss, w => if ss = [] then ed1 kd v s w else (stp w s).bind (fun t => (edt kd v ss ((ksR w).getD t [])).map (fun p => spc w t 1 [((ksN w).getD t [], p)]))
/-- the document with another value at the end of the steps -/
def rpt : List (List Nat) → List Row → List Row → List Row
  | [], _, r => r
  | s :: ss, w, r => match stp w s with
    | none => w
    | some t => spc w t 1 [((ksN w).getD t [], rpt ss ((ksR w).getD t []) r)]
theorem edt_last {kd : Nat} {v : List Row} : ∀ (ss : List (List Nat)) (s : List Nat) (w : List Row), edt kd v (ss ++ [s]) w = (trg ss w).bind (fun c => (ed1 kd v s c).map (rpt ss w))
  | [], s, w => by
    show (if ([] : List (List Nat)) = [] then ed1 kd v s w else _) = _
    rw [if_pos rfl, trg, Option.bind_some]
    cases ed1 kd v s w <;> rfl
  | a :: ss, s, w => by
    have hne : ¬ ss ++ [s] = [] := by simp
    rw [List.cons_append, edt, if_neg hne, trg]
    cases h : stp w a with
    | none => rfl
    | some t =>
      simp only [Option.bind_some]
      rw [edt_last ss s]
      cases trg ss ((ksR w).getD t []) with
      | none => rfl
      | some c =>
        simp only [Option.bind_some]
        cases ed1 kd v s c with
        | none => rfl
        | some p =>
          simp only [Option.map_some]
          rw [rpt, h]
theorem kid_app (k : Nat) : ∀ (ns : List (List Nat)) (rs : List (List Row)) (ms : List (List Nat)) (qs : List (List Row)), ns.length = rs.length → kidRows k (ns ++ ms) (rs ++ qs) = kidRows k ns rs ++ kidRows k ms qs
  | [], [], ms, qs, _ => rfl
  | [], _ :: _, _, _, h => by simp at h
  | _ :: _, [], _, _, h => by simp at h
  | a :: ns, b :: rs, ms, qs, h => by
    rw [List.cons_append, List.cons_append, kidRows, kidRows, kid_app k ns rs ms qs (by simpa using h), List.append_assoc]
theorem elm_lt {w : List Row} {v : Option Nat} {t : Nat} (h : elm w v = some t) : t < (ksR w).length := by
  unfold elm at h
  cases v with
  | none => cases h
  | some v =>
    simp only [Option.bind_some] at h
    split at h
    · cases h; assumption
    · cases h
theorem stp_lt {w : List Row} {s : List Nat} {t : Nat} (h : stp w s = some t) : t < (ksR w).length ∧ (hdK w = 5 ∨ hdK w = 6) := by
  unfold stp at h
  split at h
  · next h6 => exact ⟨by rw [← ksN_len]; exact (nix_lt h).1, Or.inr h6⟩
  · split at h
    · next h5 => exact ⟨elm_lt h, Or.inl h5⟩
    · cases h
/-- the rows of a document around its part t -/
theorem wr_around {d : Nat} {w : List Row} {t : Nat} (h : WR (d + 1) w) (ht : t < (ksR w).length) : ∃ (q : Row) (A B : List Row), w = q :: (A ++ (setNm (if hdK w = 6 then 0 :: (ksN w).getD t [] else []) (lift 1 ((ksR w).getD t [])) ++ B)) ∧ A.length = slen ((ksR w).take t) ∧ WR d ((ksR w).getD t []) ∧ LOW 1 B ∧ (∀ x ∈ A, 1 ≤ x.2.1) ∧ ∀ p, setNm [] p = p → spc w t 1 [((ksN w).getD t [], p)] = q :: (A ++ (setNm (if hdK w = 6 then 0 :: (ksN w).getD t [] else []) (lift 1 p) ++ B)) := by
  obtain ⟨k, num, rt, e, hk, _, _, hw⟩ := wr_parts h
  have hl := ksN_len w
  have hwt : WR d ((ksR w).getD t []) := by
    rw [List.getD_eq_getElem?_getD, List.getElem?_eq_getElem ht]
    exact hw _ (List.getElem_mem ht)
  have hlt : ((ksN w).take t).length = ((ksR w).take t).length := by rw [List.length_take, List.length_take, hl]
  have sp : ∀ p, setNm [] p = p → kidRows k ((ksN w).take t ++ ([(ksN w).getD t []] ++ (ksN w).drop (t + 1))) ((ksR w).take t ++ ([p] ++ (ksR w).drop (t + 1))) = kidRows k ((ksN w).take t) ((ksR w).take t) ++ (setNm (if k = 6 then 0 :: (ksN w).getD t [] else []) (lift 1 p) ++ kidRows k ((ksN w).drop (t + 1)) ((ksR w).drop (t + 1))) := by
    intro p hp
    rw [kid_app k _ _ _ _ hlt]
    congr 1
    show raise (if k = 6 then setNm (0 :: (ksN w).getD t []) p else p) ++ _ = _
    congr 1
    have e1 : raise p = lift 1 p := rfl
    split
    · show lift 1 (setNm _ p) = _
      rw [lift_setNm]
    · rw [← lift_setNm, hp]; rfl
  have hd : ∀ {α : Type} (xs : List α) (z : α), t < xs.length → xs = xs.take t ++ ([xs.getD t z] ++ xs.drop (t + 1)) := by
    intro α xs z hx
    rw [List.getD_eq_getElem?_getD, List.getElem?_eq_getElem hx]
    show xs = xs.take t ++ (xs[t] :: xs.drop (t + 1))
    rw [← List.drop_eq_getElem_cons hx, List.take_append_drop]
  refine ⟨(k, 0, num, rt, []), kidRows k ((ksN w).take t) ((ksR w).take t), kidRows k ((ksN w).drop (t + 1)) ((ksR w).drop (t + 1)), ?_, len_kids k _ _ hlt, hwt, ?_, kid_lv _ _, ?_⟩
  · rw [hk, ← sp _ (wr_setNm hwt), ← hd (ksN w) [] (by omega), ← hd (ksR w) [] ht]
    exact e
  · have := kids_low (k := k) ((ksN w).drop (t + 1)) ((ksR w).drop (t + 1)) (fun r hr => hw r (List.mem_of_mem_drop hr)) 0 [] (fun q r e => by cases e)
    rw [lift_zero, List.append_nil] at this
    exact this
  · intro p hp
    rw [hk, ← sp p hp, spc_of e]
    rfl
theorem lift_lift (l : Nat) (r : List Row) : lift 1 (lift l r) = lift (l + 1) r := by
  simp only [lift, List.map_map]
  rfl
theorem low_up {a b : Nat} {r : List Row} (h : LOW a r) (hb : a ≤ b) : LOW b r := fun q x e => Nat.le_trans (h q x e) hb
theorem setNm_app {nm : List Nat} {a b : List Row} (h : a ≠ []) : setNm nm (a ++ b) = setNm nm a ++ b := by
  cases a with
  | nil => exact absurd rfl h
  | cons x a => rfl
/-- the target among the rows, and the rows with another value there -/
theorem rpt_flat : ∀ (ss : List (List Nat)) (d : Nat) (w r : List Row), WR d w → trg ss w = some r → ∃ (e l : Nat) (nm : List Nat) (pre post : List Row), WR e r ∧ e + l ≤ d ∧ w = pre ++ (setNm nm (lift l r) ++ post) ∧ LOW l post ∧ (∀ i0, trp ss w i0 = some (i0 + pre.length)) ∧ (∀ r', setNm [] r' = r' → r' ≠ [] → rpt ss w r' = pre ++ (setNm nm (lift l r') ++ post)) ∧ (ss = [] → pre = [] ∧ l = 0 ∧ nm = [] ∧ post = []) ∧ (¬ ss = [] → pre ≠ [])
  | [], d, w, r, hw, h => by
    cases h
    refine ⟨d, 0, [], [], [], hw, Nat.le_refl _, ?_, fun q r e => (by cases e), fun _ => rfl, fun r' h1 h2 => ?_, fun _ => ⟨rfl, rfl, rfl, rfl⟩, fun h => absurd rfl h⟩
    · rw [lift_zero, wr_setNm hw]; simp
    · rw [rpt, lift_zero, h1]; simp
  | s :: ss, 0, w, r, hw, h => hw.elim
  | s :: ss, d + 1, w, r, hw, h => by
    rw [trg] at h
    cases hs : stp w s with
    | none => rw [hs] at h; cases h
    | some t =>
      rw [hs, Option.bind_some] at h
      obtain ⟨q, A, B, e1, e2, hx, hB, hA, e3⟩ := wr_around hw (stp_lt hs).1
      generalize hnx : (if hdK w = 6 then 0 :: (ksN w).getD t [] else []) = nmx at e1 e3
      obtain ⟨e, l, nm, pre, post, g1, g2, g3, g4, g5, g6, g7, g8⟩ := rpt_flat ss d _ r hx h
      have htp : ∀ i0, trp (s :: ss) w i0 = some (i0 + 1 + slen ((ksR w).take t) + pre.length) := fun i0 => by rw [trp, hs, Option.bind_some, g5]
      have hrp : ∀ r', rpt (s :: ss) w r' = spc w t 1 [((ksN w).getD t [], rpt ss ((ksR w).getD t []) r')] := fun r' => by rw [rpt, hs]
      by_cases hss : ss = []
      · obtain ⟨rfl, rfl, rfl, rfl⟩ := g7 hss
        have hxr : (ksR w).getD t [] = r := by
          rw [g3, lift_zero, wr_setNm g1]; simp
        rw [hxr] at e1
        refine ⟨e, 1, nmx, q :: A, B, g1, by omega, e1, hB, fun i0 => ?_, fun r' h1 h2 => ?_, fun h => (by cases h), fun _ h => (by cases h)⟩
        · rw [htp]
          simp only [List.length_cons, List.length_nil, e2]
          congr 1
          omega
        · rw [hrp, hss]
          exact e3 r' h1
      · have hpre := g8 hss
        have hlp : lift 1 pre ≠ [] := by
          cases pre with
          | nil => exact absurd rfl hpre
          | cons a b => intro h; cases h
        have hlift : ∀ r', setNm nmx (lift 1 (pre ++ (setNm nm (lift l r') ++ post))) = setNm nmx (lift 1 pre) ++ (setNm nm (lift (l + 1) r') ++ lift 1 post) := by
          intro r'
          rw [lift_app, setNm_app hlp, lift_app, lift_setNm, lift_lift]
        refine ⟨e, l + 1, nm, q :: (A ++ setNm nmx (lift 1 pre)), lift 1 post ++ B, g1, by omega, ?_, ?_, fun i0 => ?_, fun r' h1 h2 => ?_, fun h => (by cases h), fun _ h => (by cases h)⟩
        · rw [g3, hlift] at e1
          rw [e1]
          simp
        · cases post with
          | nil => exact low_up hB (by omega)
          | cons a b =>
            intro x y exy
            cases exy
            have := g4 a b rfl
            show a.2.1 + 1 ≤ l + 1
            omega
        · rw [htp]
          simp only [List.length_cons, List.length_append, setNm_len, lift_len, e2]
          congr 1
          omega
        · have hr2 := g6 r' h1 h2
          have hnm0 : setNm [] (rpt ss ((ksR w).getD t []) r') = rpt ss ((ksR w).getD t []) r' := by
            rw [hr2, setNm_app hpre]
            have := wr_setNm hx
            rw [g3, setNm_app hpre] at this
            rw [List.append_cancel_right this]
          rw [hrp, e3 _ hnm0, hr2, hlift]
          simp
/-- a part more, or one less -/
theorem wr_insert {d : Nat} {w : List Row} {t : Nat} (h : WR (d + 1) w) (ht : t ≤ (ksR w).length) : ∃ (q : Row) (A B : List Row), w = q :: (A ++ B) ∧ A.length = slen ((ksR w).take t) ∧ LOW 1 B ∧ ∀ s v, setNm [] v = v → spc w t 0 [(s, v)] = q :: (A ++ (setNm (if hdK w = 6 then 0 :: s else []) (lift 1 v) ++ B)) := by
  obtain ⟨k, num, rt, e, hk, _, _, hw⟩ := wr_parts h
  have hl := ksN_len w
  have hlt : ((ksN w).take t).length = ((ksR w).take t).length := by rw [List.length_take, List.length_take, hl]
  refine ⟨(k, 0, num, rt, []), kidRows k ((ksN w).take t) ((ksR w).take t), kidRows k ((ksN w).drop t) ((ksR w).drop t), ?_, len_kids k _ _ hlt, ?_, ?_⟩
  · rw [← kid_app k _ _ _ _ hlt, List.take_append_drop, List.take_append_drop]
    exact e
  · have := kids_low (k := k) ((ksN w).drop t) ((ksR w).drop t) (fun r hr => hw r (List.mem_of_mem_drop hr)) 0 [] (fun q r e => by cases e)
    rw [lift_zero, List.append_nil] at this
    exact this
  · intro s v hv
    rw [spc_of e]
    show _ :: kidRows k ((ksN w).take t ++ ([s] ++ (ksN w).drop t)) ((ksR w).take t ++ ([v] ++ (ksR w).drop t)) = _
    rw [kid_app k _ _ _ _ hlt, hk]
    congr 2
    show raise (if k = 6 then setNm (0 :: s) v else v) ++ _ = _
    congr 1
    split
    · show lift 1 (setNm _ v) = _
      rw [lift_setNm]
    · rw [← lift_setNm, hv]; rfl
theorem wr_cut {d : Nat} {w : List Row} {t : Nat} (h : WR (d + 1) w) (ht : t < (ksR w).length) : ∃ (q : Row) (A B : List Row), w = q :: (A ++ (setNm (if hdK w = 6 then 0 :: (ksN w).getD t [] else []) (lift 1 ((ksR w).getD t [])) ++ B)) ∧ A.length = slen ((ksR w).take t) ∧ spc w t 1 [] = q :: (A ++ B) := by
  obtain ⟨k, num, rt, e, hk, _, _, hw⟩ := wr_parts h
  have hl := ksN_len w
  have hwt : WR d ((ksR w).getD t []) := by
    rw [List.getD_eq_getElem?_getD, List.getElem?_eq_getElem ht]
    exact hw _ (List.getElem_mem ht)
  have hlt : ((ksN w).take t).length = ((ksR w).take t).length := by rw [List.length_take, List.length_take, hl]
  have hd : ∀ {α : Type} (xs : List α) (z : α), t < xs.length → xs = xs.take t ++ ([xs.getD t z] ++ xs.drop (t + 1)) := by
    intro α xs z hx
    rw [List.getD_eq_getElem?_getD, List.getElem?_eq_getElem hx]
    show xs = xs.take t ++ (xs[t] :: xs.drop (t + 1))
    rw [← List.drop_eq_getElem_cons hx, List.take_append_drop]
  refine ⟨(k, 0, num, rt, []), kidRows k ((ksN w).take t) ((ksR w).take t), kidRows k ((ksN w).drop (t + 1)) ((ksR w).drop (t + 1)), ?_, len_kids k _ _ hlt, ?_⟩
  · have h1 : kidRows k (ksN w) (ksR w) = kidRows k ((ksN w).take t) ((ksR w).take t) ++ (setNm (if k = 6 then 0 :: (ksN w).getD t [] else []) (lift 1 ((ksR w).getD t [])) ++ kidRows k ((ksN w).drop (t + 1)) ((ksR w).drop (t + 1))) := by
      conv => lhs; rw [hd (ksN w) [] (by omega), hd (ksR w) [] ht]
      rw [kid_app k _ _ _ _ hlt]
      congr 1
      show raise (if k = 6 then setNm (0 :: (ksN w).getD t []) _ else _) ++ _ = _
      congr 1
      rw [kid_nm hwt]
      show lift 1 (setNm _ _) = _
      rw [lift_setNm]
    rw [hk, ← h1]
    exact e
  · rw [spc_of e]
    show _ :: kidRows k ((ksN w).take t ++ ([] ++ (ksN w).drop (t + 1))) ((ksR w).take t ++ ([] ++ (ksR w).drop (t + 1))) = _
    rw [List.nil_append, List.nil_append, kid_app k _ _ _ _ hlt]
theorem wr_spc {d : Nat} {w : List Row} {t out : Nat} {ins : List (List Nat × List Row)} (h : WR (d + 1) w) (hk : hdK w = 5 ∨ hdK w = 6) (hi : ∀ q ∈ ins, WR d q.2) : WR (d + 1) (spc w t out ins) := by
  obtain ⟨k, num, rt, e, hk2, _, h6, hw⟩ := wr_parts h
  rw [hk2] at hk
  rw [spc_of e]
  have hl := ksN_len w
  refine ⟨k, num, rt, _, _, rfl, by simp [hl], fun h5 => by omega, h6, fun r hr => ?_⟩
  rcases List.mem_append.mp hr with hr | hr
  · exact hw r (List.mem_of_mem_take hr)
  · rcases List.mem_append.mp hr with hr | hr
    · obtain ⟨q, hq, rfl⟩ := List.mem_map.mp hr
      exact hi q hq
    · exact hw r (List.mem_of_mem_drop hr)
theorem plc_kd {w : List Row} {s : List Nat} {t : Nat} (h : plc w s = some t) : t ≤ (ksR w).length ∧ (hdK w = 5 ∨ hdK w = 6) := by
  unfold plc at h
  split at h
  · next h6 =>
    refine ⟨?_, Or.inr h6⟩
    cases hn : nix s (ksN w) with
    | none => rw [hn] at h; cases h; exact Nat.le_refl _
    | some v =>
      rw [hn] at h
      cases h
      have := (nix_lt hn).1
      rw [ksN_len] at this
      exact Nat.le_of_lt this
  · split at h
    · next h5 =>
      refine ⟨?_, Or.inl h5⟩
      split at h
      · cases h; exact Nat.le_refl _
      · cases hn : wnum s with
        | none => rw [hn] at h; cases h
        | some v =>
          rw [hn] at h
          simp only [Option.bind_some] at h
          split at h
          · cases h; assumption
          · cases h
    · cases h
theorem wr_ed1 {kd d : Nat} {v : List Row} {s : List Nat} {w w' : List Row} (hw : WR (d + 1) w) (hv : kd = 2 ∨ WR d v) (h : ed1 kd v s w = some w') : WR (d + 1) w' := by
  have h1 : ∀ (t out : Nat) (n : List Nat), (hdK w = 5 ∨ hdK w = 6) → ¬ kd = 2 → WR (d + 1) (spc w t out [(n, v)]) := fun t out n hk h2 => wr_spc hw hk (fun q hq => by rw [List.mem_singleton.mp hq]; exact hv.resolve_left h2)
  unfold ed1 at h
  split at h
  · obtain ⟨t, ht, rfl⟩ := Option.map_eq_some_iff.mp h
    have hk := (plc_kd ht).2
    split
    · exact h1 _ _ _ hk (by omega)
    · exact h1 _ _ _ hk (by omega)
  · obtain ⟨t, ht, rfl⟩ := Option.map_eq_some_iff.mp h
    have hk := (stp_lt ht).2
    split
    · exact wr_spc hw hk (fun q hq => by cases hq)
    · next h2 => exact h1 _ _ _ hk h2
theorem wr_edt {kd e : Nat} {v : List Row} (hv : kd = 2 ∨ WR e v) : ∀ (ss : List (List Nat)) (d : Nat) (w w' : List Row), WR d w → edt kd v ss w = some w' → WR (d + e) w'
  | [], d, w, w', hw, h => by
    rw [edt] at h
    split at h
    · cases h
    · next h2 => cases h; exact (hv.resolve_left h2).up (by omega)
  | s :: ss, 0, w, w', hw, h => hw.elim
  | s :: ss, d + 1, w, w', hw, h => by
    have hw2 : WR (d + e + 1) w := hw.up (by omega)
    rw [show d + 1 + e = d + e + 1 by omega]
    rw [edt] at h
    split at h
    · exact wr_ed1 hw2 (hv.imp id (fun h => h.up (by omega))) h
    · cases hs : stp w s with
      | none => rw [hs] at h; cases h
      | some t =>
        rw [hs, Option.bind_some] at h
        obtain ⟨p, hp, rfl⟩ := Option.map_eq_some_iff.mp h
        obtain ⟨_, _, _, _, _, hx, _⟩ := wr_around hw (stp_lt hs).1
        have := wr_edt hv ss d _ p hx hp
        exact wr_spc hw2 (stp_lt hs).2 (fun q hq => by rw [List.mem_singleton.mp hq]; exact this)
/-- as deep as it is -/
theorem dmx_mem {r : List Row} : ∀ {rs : List (List Row)}, r ∈ rs → dpt r ≤ dmx rs
  | [], h => by cases h
  | a :: rs, h => by
    show _ ≤ max (dpt a) (dmx rs)
    rcases List.mem_cons.mp h with rfl | h
    · omega
    · have := dmx_mem h; omega
theorem wr_ne {d : Nat} {r : List Row} (h : WR d r) : r ≠ [] := by
  cases d with
  | zero => exact h.elim
  | succ d => obtain ⟨_, _, _, _, _, rfl, _⟩ := h; simp
theorem wr_dpt : ∀ {d m : Nat} {w : List Row}, WR d w → dpt w ≤ m → WR (m + 1) w
  | 0, _, _, h, _ => h.elim
  | d + 1, m, w, ⟨k, num, rt, ns, rs, e, hl, h5, h6, hw⟩, hm => by
    refine ⟨k, num, rt, ns, rs, e, hl, h5, h6, fun r hr => ?_⟩
    have e2 : dpt w = max (0 + (if 5 ≤ k then 1 else 0)) (dpt (kidRows k ns rs)) := by rw [e]; rfl
    have hne : ¬ rs = [] := fun h => by rw [h] at hr; cases hr
    rw [dpt_kids k ns rs hl (fun r hr => wr_ne (hw r hr)), if_neg hne] at e2
    have h1 := dmx_mem hr
    cases m with
    | zero => omega
    | succ m => exact wr_dpt (hw r hr) (by omega)
