/-! rows of a tree by their places: levels, subtrees, the parts of an array or object -/
def lvR (rows : List Row) (j : Nat) : Nat := match rows[j]? with
  | some q => q.2.1
  | none => 0
def nmR (rows : List Row) (j : Nat) : List Nat := match rows[j]? with
  | some q => q.2.2.2.2
  | none => []
theorem lvR_of {rows : List Row} {j : Nat} {q : Row} (h : rows[j]? = some q) : lvR rows j = q.2.1 := by
  unfold lvR; rw [h]
theorem nmR_of {rows : List Row} {j : Nat} {q : Row} (h : rows[j]? = some q) : nmR rows j = q.2.2.2.2 := by
  unfold nmR; rw [h]
theorem bhd_is {lv : Nat → Nat} {n x e : Nat} (h2 : e ≤ n) (h4 : e = n ∨ ¬ x < lv e) : ∀ (k r : Nat), e - r = k → r ≤ e → (∀ j, r ≤ j → j < e → x < lv j) → bhd lv n x r = e
  | 0, r, hk, h1, _ => by
    have hr : r = e := by omega
    subst hr
    rw [bhd]
    split
    · split
      · rcases h4 with h4 | h4
        · omega
        · exact absurd ‹_› h4
      · rfl
    · rfl
  | k + 1, r, hk, h1, h3 => by
    rw [bhd, if_pos (by omega), if_pos (h3 r (Nat.le_refl _) (by omega))]
    exact bhd_is h2 h4 k (r + 1) (by omega) (by omega) (fun j hj hj2 => h3 j (by omega) hj2)
theorem kid_lv {k : Nat} : ∀ (ns : List (List Nat)) (rs : List (List Row)), ∀ q ∈ kidRows k ns rs, 1 ≤ q.2.1
  | n :: ns, r :: rs, q, h => by
    rw [kidRows, List.mem_append] at h
    rcases h with h | h
    · obtain ⟨q0, _, rfl⟩ := List.mem_map.mp h
      exact Nat.le_add_left _ _
    · exact kid_lv ns rs q h
  | [], _, q, h => by simp [kidRows] at h
  | _ :: _, [], q, h => by simp [kidRows] at h
theorem lift_len (n : Nat) (r : List Row) : (lift n r).length = r.length := List.length_map _
theorem setNm_len (nm : List Nat) (r : List Row) : (setNm nm r).length = r.length := by cases r <;> rfl
/-- the document r stands among the rows from i on, l levels up, with the name nm -/
def SUB (rows : List Row) (i l : Nat) (nm : List Nat) (r : List Row) : Prop := ∃ pre post, rows = pre ++ (setNm nm (lift l r) ++ post) ∧ pre.length = i ∧ LOW l post
/-- the parts of an array or object stand from p on -/
def KID (d k : Nat) (rows : List Row) (p l : Nat) (ns : List (List Nat)) (rs : List (List Row)) : Prop := ns.length = rs.length ∧ (∀ r ∈ rs, WR d r) ∧ ∃ pre post, rows = pre ++ (lift l (kidRows k ns rs) ++ post) ∧ pre.length = p ∧ LOW l post
theorem SUB.root {d : Nat} {rows : List Row} (h : WR d rows) : SUB rows 0 0 [] rows := ⟨[], [], by rw [lift_zero, wr_setNm h]; simp, rfl, fun q r e => by cases e⟩
theorem SUB.le {rows : List Row} {i l : Nat} {nm : List Nat} {r : List Row} (h : SUB rows i l nm r) : i + r.length ≤ rows.length := by
  obtain ⟨pre, post, rfl, rfl, _⟩ := h
  simp only [List.length_append, setNm_len, lift_len]
  omega
theorem SUB.kids {d k : Nat} {rows : List Row} {i l : Nat} {num : Int} {rt nm : List Nat} {ns : List (List Nat)} {rs : List (List Row)} (h : SUB rows i l nm ((k, 0, num, rt, []) :: kidRows k ns rs)) (hl : ns.length = rs.length) (hw : ∀ r ∈ rs, WR d r) : KID d k rows (i + 1) l ns rs := by
  obtain ⟨pre, post, rfl, rfl, h3⟩ := h
  refine ⟨hl, hw, pre ++ [(k, 0 + l, num, rt, nm)], post, ?_, by simp, h3⟩
  show pre ++ (((k, 0 + l, num, rt, nm) :: lift l (kidRows k ns rs)) ++ post) = _
  simp
theorem SUB.row {k : Nat} {rows : List Row} {i l : Nat} {num : Int} {rt nm : List Nat} {kr : List Row} (h : SUB rows i l nm ((k, 0, num, rt, []) :: kr)) : rows[i]? = some (k, l, num, rt, nm) := by
  obtain ⟨pre, post, rfl, rfl, h3⟩ := h
  show (pre ++ (((k, 0 + l, num, rt, nm) :: lift l kr) ++ post))[pre.length]? = _
  rw [List.getElem?_append_right (Nat.le_refl _)]
  simp
theorem KID.head {d k : Nat} {rows : List Row} {p l : Nat} {n : List Nat} {ns : List (List Nat)} {r : List Row} {rs : List (List Row)} (h : KID d k rows p l (n :: ns) (r :: rs)) : SUB rows p (l + 1) (if k = 6 then 0 :: n else []) r ∧ KID d k rows (p + r.length) l ns rs := by
  obtain ⟨h1, h2, pre, post, e, rfl, h5⟩ := h
  have hr := h2 r List.mem_cons_self
  have hrs : ∀ r ∈ rs, WR d r := fun r hm => h2 r (List.mem_cons_of_mem _ hm)
  rw [kidRows, kid_nm hr, lift_app, lift_raise, lift_setNm] at e
  refine ⟨⟨pre, lift l (kidRows k ns rs) ++ post, by rw [e]; simp, rfl, kids_low ns rs hrs l post h5⟩, by simpa using h1, hrs, pre ++ setNm (if k = 6 then 0 :: n else []) (lift (l + 1) r), post, by rw [e]; simp, by simp [setNm_len, lift_len], h5⟩
theorem SUB.behind {d : Nat} {rows : List Row} {i l : Nat} {nm : List Nat} {r : List Row} (h : SUB rows i l nm r) (hw : WR d r) : bhd (lvR rows) rows.length (lvR rows i) (i + 1) = i + r.length := by
  cases d with
  | zero => exact hw.elim
  | succ d =>
    have hle := h.le
    obtain ⟨k, num, rt, ns, rs, rfl, hl, _, _, hws⟩ := hw
    have hrow := h.row
    rw [lvR_of hrow]
    obtain ⟨pre, post, e, rfl, hlow⟩ := h
    have e2 : rows = (pre ++ [(k, 0 + l, num, rt, nm)]) ++ (lift l (kidRows k ns rs) ++ post) := by
      rw [e]
      show pre ++ (((k, 0 + l, num, rt, nm) :: lift l (kidRows k ns rs)) ++ post) = _
      simp
    refine bhd_is hle ?_ _ _ rfl (by simp only [List.length_cons]; omega) (fun j hj1 hj2 => ?_)
    · by_cases hp : post = []
      · left
        rw [e2, hp]
        simp [lift_len]
      · right
        obtain ⟨q, r2, rfl⟩ := List.exists_cons_of_ne_nil hp
        have hq := hlow q r2 rfl
        have : rows[pre.length + ((k, 0, num, rt, []) :: kidRows k ns rs : List Row).length]? = some q := by
          rw [e2, List.getElem?_append_right (by simp), List.getElem?_append_right (by simp [lift_len]; omega)]
          simp [lift_len]
          rw [show pre.length + ((kidRows k ns rs).length + 1) - (pre.length + 1) - (kidRows k ns rs).length = 0 by omega]
          rfl
        rw [lvR_of this]
        show ¬ l < q.2.1
        omega
    · simp only [List.length_cons] at hj2
      have hb : j - (pre.length + 1) < (kidRows k ns rs).length := by omega
      have : rows[j]? = (lift l (kidRows k ns rs))[j - (pre.length + 1)]? := by
        rw [e2, List.getElem?_append_right (by simp; omega), List.getElem?_append_left (by simp [lift_len]; omega)]
        simp
      rw [lift, List.getElem?_map, List.getElem?_eq_getElem hb] at this
      rw [lvR_of this]
      have := kid_lv ns rs _ (List.getElem_mem hb)
      show l < _ + l
      omega
/-- the place of a name -/
def nix (tx : List Nat) : List (List Nat) → Option Nat
  | [] => none
  | n :: ns => if n = tx then some 0 else (nix tx ns).map (· + 1)
theorem nix_none {tx : List Nat} : ∀ {ns : List (List Nat)}, nix tx ns = none ↔ tx ∉ ns
  | [] => by simp [nix]
  | n :: ns => by
    rw [nix]
    split
    · next h => simp [h]
    · next h =>
      rw [Option.map_eq_none_iff, nix_none (ns := ns)]
      simp [List.mem_cons, Ne.symm (show n ≠ tx from h)]
theorem nix_lt {tx : List Nat} : ∀ {ns : List (List Nat)} {t : Nat}, nix tx ns = some t → t < ns.length ∧ ns.getD t [] = tx
  | [], t, h => by simp [nix] at h
  | n :: ns, t, h => by
    rw [nix] at h
    split at h
    · next h2 => cases h; exact ⟨by simp, by simpa using h2⟩
    · obtain ⟨t0, h0, rfl⟩ := Option.map_eq_some_iff.mp h
      have := nix_lt h0
      exact ⟨by simpa using this.1, by simpa using this.2⟩
theorem KID.find {d : Nat} {rows : List Row} {l e : Nat} {tx : List Nat} : ∀ {ns : List (List Nat)} {rs : List (List Row)} {p : Nat}, KID d 6 rows p l ns rs → e = p + slen rs → mbr (lvR rows) (fun j => (nmR rows j).drop 1) rows.length e tx p = (nix tx ns).map (fun t => p + slen (rs.take t))
  | [], [], p, _, he => by
    rw [mbr, if_neg (by simp [slen] at he; omega)]
    rfl
  | _ :: _, [], _, h, _ => by have := h.1; simp at this
  | [], _ :: _, _, h, _ => by have := h.1; simp at this
  | n :: ns, r :: rs, p, h, he => by
    obtain ⟨h1, h2⟩ := h.head
    have hwr := h.2.1 r List.mem_cons_self
    have hb := h1.behind hwr
    have hlen : 0 < r.length ∧ ∃ q, rows[p]? = some q ∧ q.2.2.2.2 = 0 :: n := by
      cases d with
      | zero => exact hwr.elim
      | succ d =>
        obtain ⟨k, num, rt, ns', rs', rfl, _⟩ := hwr
        exact ⟨by simp, _, h1.row, rfl⟩
    obtain ⟨hpos, q, hq, hqn⟩ := hlen
    have hs : slen (r :: rs) = r.length + slen rs := by simp [slen]
    rw [hs] at he
    rw [mbr, if_pos (by omega), nix, nmR_of hq, hqn]
    show (if n = tx then _ else _) = _
    by_cases hn : n = tx
    · rw [if_pos hn, if_pos hn]
      simp [slen]
    · rw [if_neg hn, if_neg hn, hb, KID.find h2 (by omega), Option.map_map]
      congr 1
      funext t
      simp only [Function.comp, List.take_succ_cons]
      simp [slen]
      omega
/-- the part t -/
theorem KID.at {d k : Nat} {rows : List Row} {l : Nat} : ∀ {ns : List (List Nat)} {rs : List (List Row)} {p t : Nat}, KID d k rows p l ns rs → t < rs.length → SUB rows (p + slen (rs.take t)) (l + 1) (if k = 6 then 0 :: ns.getD t [] else []) (rs.getD t [])
  | _, [], p, t, _, ht => by simp at ht
  | [], _ :: _, _, _, h, _ => by have := h.1; simp at this
  | n :: ns, r :: rs, p, 0, h, _ => by simpa [slen] using h.head.1
  | n :: ns, r :: rs, p, t + 1, h, ht => by
    have := KID.at h.head.2 (t := t) (by simpa using ht)
    rw [List.take_succ_cons, show slen (r :: rs.take t) = r.length + slen (rs.take t) by simp [slen], ← Nat.add_assoc]
    simpa using this
