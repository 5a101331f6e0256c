def opsL : List (List Row) → Option (List Opn)
  | [] => some []
  | r :: rs => (opR r).bind (fun o => (opsL rs).map (fun os => o :: os))
def allR (rows : List Row) : Option (List Opn) := if hdK rows = 5 then opsL (ksR rows) else none
theorem opsL_app : ∀ (a b : List (List Row)), opsL (a ++ b) = (opsL a).bind (fun x => (opsL b).map (fun y => x ++ y))
  | [], b => by cases h : opsL b <;> simp [opsL, h]
  | r :: a, b => by
    rw [List.cons_append, opsL, opsL, opsL_app a b]
    cases opR r with
    | none => rfl
    | some o =>
      simp only [Option.bind_some]
      cases opsL a with
      | none => rfl
      | some x => cases opsL b <;> rfl
theorem opsL_snoc {a : List (List Row)} {r : List Row} {x : List Opn} {o : Opn} (h1 : opsL a = some x) (h2 : opR r = some o) : opsL (a ++ [r]) = some (x ++ [o]) := by
  rw [opsL_app, h1, opsL, h2]; rfl
theorem opsL_bad {rs : List (List Row)} {i : Nat} (hi : i < rs.length) (h : opR (rs.getD i []) = none) : opsL rs = none := by
  have e : rs = rs.take i ++ (rs.getD i [] :: rs.drop (i + 1)) := by
    rw [List.getD_eq_getElem?_getD, List.getElem?_eq_getElem hi]
    show rs = rs.take i ++ (rs[i] :: rs.drop (i + 1))
    rw [← List.drop_eq_getElem_cons hi, List.take_append_drop]
  rw [e, opsL_app, opsL, h]
  cases opsL (rs.take i) <;> rfl
def tlS (rs : List (List Row)) : Nat := (rs.map tln).sum
theorem tlS_app (a b : List (List Row)) : tlS (a ++ b) = tlS a + tlS b := by simp only [tlS, List.map_append, List.sum_append]
theorem tlS_take {rs : List (List Row)} {i : Nat} (h : i < rs.length) : tlS (rs.take (i + 1)) = tlS (rs.take i) + tln (rs.getD i []) := by
  rw [take_step [] h, tlS_app]; simp [tlS]
theorem tlS_le {rs : List (List Row)} (t : Nat) : tlS (rs.take t) ≤ tlS rs := by
  have h : tlS (rs.take t ++ rs.drop t) = tlS rs := by rw [List.take_append_drop]
  rw [tlS_app] at h
  omega
theorem tln_kids (k : Nat) : ∀ (ns : List (List Nat)) (rs : List (List Row)), ns.length = rs.length → tln (kidRows k ns rs) = tlS rs
  | [], [], _ => rfl
  | n :: ns, [], h => by simp at h
  | [], r :: rs, h => by simp at h
  | n :: ns, r :: rs, h => by
    rw [kidRows, tln_app, tln_kids k ns rs (by simpa using h)]
    have e : tln (raise (if k = 6 then setNm (0 :: n) r else r)) = tln r := by
      show tln (lift 1 _) = _
      rw [tln_lift]
      split
      · exact tln_setNm _ _
      · rfl
    rw [e]; simp [tlS]
theorem tlS_rows {d : Nat} {rows : List Row} (h : WR (d + 1) rows) : tlS (ksR rows) ≤ tln rows := by
  obtain ⟨k, num, rt, e, _⟩ := wr_parts h
  have e2 : tln rows = rt.length + tln (kidRows k (ksN rows) (ksR rows)) := by
    conv => lhs; rw [e]
    rfl
  rw [tln_kids k _ _ (ksN_len rows)] at e2
  omega
theorem Oci4 : Oci 4 := ⟨"PatchStore$Operation", T_OP, 4, rfl, List.mem_of_getElem? (i := 26) rfl⟩
theorem ac_8 : ∀ n, n < 161 → acl n ≤ 8 ∧ asl n ≤ 474 := by decide +kernel
theorem ol_app {cB cO : ClassId} {em : Nat} {aK : Nat → Nat} {tl : va_W} {xs : List Nat} {os : List Opn} {y : Nat} {o z : Opn} (h1 : os.length = xs.length) (h : ∀ i, i < xs.length → OPz cB cO em aK tl (os.getD i z) (xs.getD i 0)) (hy : OPz cB cO em aK tl o y) : ∀ i, i < (xs ++ [y]).length → OPz cB cO em aK tl ((os ++ [o]).getD i z) ((xs ++ [y]).getD i 0) := by
  intro i hi
  simp only [List.length_append, List.length_singleton] at hi
  by_cases hi2 : i < xs.length
  · have := h i hi2
    simp only [List.getD_eq_getElem?_getD] at this ⊢
    rw [List.getElem?_append_left hi2, List.getElem?_append_left (by omega)]
    exact this
  · have e : i = xs.length := by omega
    subst e
    simp only [List.getD_eq_getElem?_getD]
    rw [List.getElem?_append_right (Nat.le_refl _), List.getElem?_append_right (by omega), h1]
    simpa using hy
set_option maxHeartbeats 1000000 in
set_option maxRecDepth 100000 in
/-- Operation.allOf(patch, builder) -/
theorem k_OP_allOf (l : Launch) (dC : Nat → ClassId) (dI : Nat → Nat → Nat) (sz : Nat) (a : Nat) (d : Nat) (nn : List Nat) (rows : List Row) (sb : Nat) (bv : Nat) (ml : Int32) (cB : ClassId) (g : Nat → Int32) (cap : Nat) (tx : List Nat) (cO : ClassId) (em : Nat) (aK : Nat → Nat) (aV : Nat → Nat) (fz : va_W) (hv : VT cB cO em aK (d + 1) fz a nn rows) (hB : Bld tx cap g) (hd : d ≤ 13) : Met l y_OP_allOf ws_OP_allOf ({ frames := 9, cells := (10 + 3 * (ksR rows).length + 10 * tln rows), slots := (480 + 10 * (ksR rows).length + 662 * tln rows), locals := 225 }) (va_Pc [.ref a, .ref sb] (fun U => U.heap.size = sz ∧ va_P (dC, dI) vwCl ([(sb, .inr (13, [.ref bv, .int 0, .int ml, .int (nI tx.length)])), (bv, .inl (cB, cap, .inl g))] ++ fz) U.heap ∧ va_K (dC, dI) vwCl [(cB, .byte), (cO, .object "java/lang/Object")] U ∧ va_D (fun _ => True) ([(sb, .inr (13, [.ref bv, .int 0, .int ml, .int (nI tx.length)])), (bv, .inl (cB, cap, .inl g))] ++ fz) ∧ EX em aK aV (va_A ([(sb, .inr (13, [.ref bv, .int 0, .int ml, .int (nI tx.length)])), (bv, .inl (cB, cap, .inl g))] ++ fz) sz) U U.heap)) (va_Qq (fun (r : Option Nat) (u : Int32 × List Nat × Nat × (Nat → Int32) × va_W) => Bld u.2.1 u.2.2.1 u.2.2.2.1 ∧ ((r = none ∧ allR rows = none) ∨ ∃ y8 x8 o8, r = some y8 ∧ allR rows = some o8 ∧ ALz cO em (u.2.2.2.2 ++ fz) y8 x8 ∧ o8.length = x8.length ∧ ∀ i, i < x8.length → OPz cB cO em aK (u.2.2.2.2 ++ fz) (o8.getD i ((0, [], [], []) : Opn)) (x8.getD i 0))) (fun u t => ∃ (bv9 : Nat), va_P (dC, dI) vwCl ([(sb, .inr (13, [.ref bv9, .int 0, .int u.1, .int (nI u.2.1.length)])), (bv9, .inl (cB, u.2.2.1, .inl u.2.2.2.1))] ++ (u.2.2.2.2 ++ fz)) t.heap ∧ va_K (dC, dI) vwCl [(cB, .byte), (cO, .object "java/lang/Object")] t ∧ va_D (va_A ([(sb, .inr (13, [.ref bv, .int 0, .int ml, .int (nI tx.length)])), (bv, .inl (cB, cap, .inl g))] ++ fz) sz) ([(sb, .inr (13, [.ref bv9, .int 0, .int u.1, .int (nI u.2.1.length)])), (bv9, .inl (cB, u.2.2.1, .inl u.2.2.2.1))] ++ (u.2.2.2.2 ++ fz))) (va_A ([(sb, .inr (13, [.ref bv, .int 0, .int ml, .int (nI tx.length)])), (bv, .inl (cB, cap, .inl g))] ++ fz) sz)) (10 + 3 * (ksR rows).length + 10 * tln rows) (480 + 10 * (ksR rows).length + 662 * tln rows) (va_A ([(sb, .inr (13, [.ref bv, .int 0, .int ml, .int (nI tx.length)])), (bv, .inl (cB, cap, .inl g))] ++ fz) sz) := by
  refine Met.ofW (cc := c_OP_allOf) (maxL := 5) (ret := (some (.object "java/util/ArrayList"))) (by decide) rfl ?_
  intro p e s m args below meth c s₁ B hml hv
  obtain ⟨hargs, hsz, hP, hK, hD0, hE⟩ := hv
  rw [show entryFrame m args 5 = entryFrame m ([.ref a, .ref sb]).toArray 5 by rw [hargs]]
  have hx := B.exec
  have hb := B.bytes
  have hr := B.returns
  have hts := atoms_spec (ws := ws_OP_allOf) B.pre
  have htb := fun w (h : w ∈ TBL) => hts w (List.mem_cons_of_mem _ h)
  have hown : s.vm.findClass R_OP = some m.cls := findClass_of_methodNamed B.named
  have hlocks := B.notSynchronized
  subst hsz
  have hD := hD0.self (sz := s.heap.size)
  generalize hAe : va_A ([(sb, .inr (13, [.ref bv, .int 0, .int ml, .int (nI tx.length)])), (bv, .inl (cB, cap, .inl g))] ++ fz) s.heap.size = A at hD hE ⊢
  have hA : ∀ q : Nat, s.heap.size ≤ q → A q := fun q h => by rw [← hAe]; exact Or.inr h
  have hS : va_S A s.heap s.heap [] := va_S.rf
  have hP : va_P (dC, dI) vwCl ([(sb, .inr (13, [.ref bv, .int 0, .int ml, .int (nI tx.length)])), (bv, .inl (cB, cap, .inl g))] ++ fz) s.heap := hP
  have hl := lv_entry ([.ref a, .ref sb]) (n := 5) (Nat.le_of_ble_eq_true rfl)
  rw [lg_entry_eq]
  generalize (lg_sl ([.ref a, .ref sb]) ++ List.replicate (5 - (lg_sl ([.ref a, .ref sb])).length) Slot.unset).toArray = ls at hl ⊢
  have hl : lv_has ls 5 [(0, .ref a), (1, .ref sb)] := hl
  refine zz_nQ (fun Q hQ => ?_)
  obtain ⟨kd, ta, nu, nm, pa, dp, cn, tt, kk, num, rt, xs, ns, hc, htx, hnm, hal, hhd, hnl, hrl, hk5, hvl, hhk, hns, hdp, hcn, hrw, h160⟩ := (id hv : VT cB cO em aK (d + 1) fz a nn rows).opn
  have hwr := hv.wr
  have htr := tlS_rows hwr
  refine lv_aload_n hx hb d_OP_allOf_0 rfl (lv_at hl 0 rfl) ?_
  obtain ⟨qz1, hz1⟩ := List.getElem?_of_mem (List.mem_append_right [(sb, .inr (13, [.ref bv, .int 0, .int ml, .int (nI tx.length)])), (bv, .inl (cB, cap, .inl g))] hc)
  refine va_get (D := (dC, dI)) (ci := 3) (v := .int kd) (C := R_VA) (T := T_VA) (N := 7) hx hb htb in_VA hown hK hP qz1 hz1 rfl 0 (by decide) (htb _ m_379) (fun _ h9 => h9) rfl d_OP_allOf_1 ?_
  refine lv_iconst (v := 3) hx hb d_OP_allOf_4 (by decide) ?_
  refine lv_icmp_eq (tgt := 10) hx hb d_OP_allOf_5 rfl (fun h1 => ?_) (fun h1 => ?_)
  · have h1 : kk = 5 := (hhd.kind.2.1).mp h1
    have hall : allR rows = opsL (ksR rows) := by rw [allR, if_pos (hhk.trans h1)]
    refine va_new (ci := 14) (fs := [.null, .int 0, .int 0]) (C := R_AL) (T := T_AL) (N := 3) hx hb htb in_AL ty_AL ty_AL_ok hown (htb _ m_581) (htb _ m_74) (htb _ m_8) hK hP hD hS hA rfl (fun j hj => by rcases (show j = 0 ∨ j = 1 ∨ j = 2 by omega) with rfl | rfl | rfl <;> rfl) ((by show 1 ≤ (10 + 3 * (ksR rows).length + 10 * tln rows); omega)) ((by show 3 ≤ (480 + 10 * (ksR rows).length + 662 * tln rows); omega)) d_OP_allOf_10 (fun pl H hP hD hS => ?_)
    have hP := zz_rotP (pre := [(sb, .inr (13, [.ref bv, .int 0, .int ml, .int (nI tx.length)])), (bv, .inl (cB, cap, .inl g))]) (fz := fz) hP
    have hD := zz_rotD (pre := [(sb, .inr (13, [.ref bv, .int 0, .int ml, .int (nI tx.length)])), (bv, .inl (cB, cap, .inl g))]) (fz := fz) hD
    have hP : va_P (dC, dI) vwCl ([(sb, .inr (13, [.ref bv, .int 0, .int ml, .int (nI tx.length)])), (bv, .inl (cB, cap, .inl g)), (pl, .inr (14, [.null, .int 0, .int 0]))] ++ fz) H := hP
    have hD : va_D A ([(sb, .inr (13, [.ref bv, .int 0, .int ml, .int (nI tx.length)])), (bv, .inl (cB, cap, .inl g)), (pl, .inr (14, [.null, .int 0, .int 0]))] ++ fz) := hD
    refine W.widen (k := 1) (n := 3) (Nat.le_of_ble_eq_true rfl) (Nat.le_of_ble_eq_true rfl) ?_
    refine lv_dup hx hb d_OP_allOf_13 rfl ?_
    have hPc := hP.sub (ws' := [(pl, .inr (14, [.null, .int 0, .int 0]))]) [2] rfl
    have hDc := hD.sub (ws' := [(pl, .inr (14, [.null, .int 0, .int 0]))]) [2] (by decide) rfl
    have hFc := va_free (wc := [(pl, .inr (14, [.null, .int 0, .int 0]))]) hD hS hA [2] rfl
    have hKc := hK.sub (tys' := []) [] rfl
    refine va_callv (va_runI (As := []) (rest := [.ref pl]) ⟨hx, hb, hml, hown, htb⟩ (k_AL_init l dC dI _ pl em aK aV ) (cwI 0 htb (g_all (fun _ h => h) m_77) rfl rfl rfl (htb _ m_8) (htb _ m_582) (htb _ m_76) rfl (by decide +kernel) ⟨Nat.le_of_ble_eq_true rfl, Nat.le_of_ble_eq_true rfl⟩) ⟨fun a U g mk q => by obtain ⟨q0, q1, qP, qK, qD, z0⟩ := q; exact ⟨q0, q1, qP, va_K.moved (u := U) (U := U.calling g mk a) (Vm.Alike.refl U.vm) qK, qD, EX.same (U := U) (U' := U.calling g mk a) rfl z0⟩, fun U hU hW => ⟨rfl, by rw [hU], by rw [hU]; exact hPc, va_K.moved hW.alike hKc, hDc.weaken (fun _ _ _ _ => trivial), by rw [hU]; exact EX.warm hW ((hE.kept (fun a h1 h2 => hS.2.1 a h1 h2)).narrow hFc)⟩⟩ rfl rfl hl.1 rfl (lv_room (Nat.le_of_ble_eq_true rfl)) d_OP_allOf_14 ⟨(by show 1 ≤ (10 + 3 * (ksR rows).length + 10 * tln rows); omega), (by show 3 ≤ (480 + 10 * (ksR rows).length + 662 * tln rows); omega)⟩) hS (fun q _ h => hFc q h) hFc (fun u2 t H1 locs ht hvm hw4 hB hz1 hk1 hS => ?_)
    obtain ⟨hP1, hK1, hD1⟩ := hB
    rw [ht] at hP1
    have hK1 := va_K.moved hvm.symm hK1
    have hw4 : True := hw4
    obtain ⟨hP, hD⟩ := zz_joinN (pre := [(sb, .inr (13, [.ref bv, .int 0, .int ml, .int (nI tx.length)])), (bv, .inl (cB, cap, .inl g)), (pl, .inr (14, [.null, .int 0, .int 0]))]) (fz := fz) (wc := [(pl, .inr (14, [.null, .int 0, .int 0]))]) (wr := [(sb, .inr (13, [.ref bv, .int 0, .int ml, .int (nI tx.length)])), (bv, .inl (cB, cap, .inl g))]) (w1 := [(pl, .inr (14, [.ref em, .int 0, .int 0]))]) hP hD [2] [0, 1] rfl rfl (by decide) (by decide) hk1 hFc hP1 hD1
    have hK := (hK.sub (tys' := [(cB, .byte), (cO, .object "java/lang/Object")]) [0, 1] rfl).app hK1
    generalize H1 = H at hP hS ⊢
    have hP : va_P (dC, dI) vwCl ([(sb, .inr (13, [.ref bv, .int 0, .int ml, .int (nI tx.length)])), (bv, .inl (cB, cap, .inl g)), (pl, .inr (14, [.ref em, .int 0, .int 0]))] ++ fz) H := hP
    have hD : va_D A ([(sb, .inr (13, [.ref bv, .int 0, .int ml, .int (nI tx.length)])), (bv, .inl (cB, cap, .inl g)), (pl, .inr (14, [.ref em, .int 0, .int 0]))] ++ fz) := hD
    have hK : va_K (dC, dI) vwCl [(cB, .byte), (cO, .object "java/lang/Object")] s := hK
    refine lv_astore_n hx hb d_OP_allOf_17 rfl hl (by decide) rfl (fun ls hl => ?_)
    have hl : lv_has ls 5 [(2, .ref pl), (0, .ref a), (1, .ref sb)] := hl
    refine lv_iconst (v := 0) hx hb d_OP_allOf_18 (by decide) ?_
    refine lv_istore_n hx hb d_OP_allOf_19 rfl hl (by decide) rfl (fun ls hl => ?_)
    have hl : lv_has ls 5 [(3, .int 0), (2, .ref pl), (0, .ref a), (1, .ref sb)] := hl
    have hP := zz_pickP (pre := [(sb, .inr (13, [.ref bv, .int 0, .int ml, .int (nI tx.length)])), (bv, .inl (cB, cap, .inl g)), (pl, .inr (14, [.ref em, .int 0, .int 0]))]) (fz := fz) (wc := [(sb, .inr (13, [.ref bv, .int 0, .int ml, .int (nI tx.length)])), (bv, .inl (cB, cap, .inl g)), (pl, .inr (14, [.ref em, .int 0, .int 0]))]) hP [0, 1, 2] rfl
    have hD := zz_pickD (pre := [(sb, .inr (13, [.ref bv, .int 0, .int ml, .int (nI tx.length)])), (bv, .inl (cB, cap, .inl g)), (pl, .inr (14, [.ref em, .int 0, .int 0]))]) (fz := fz) (wc := [(sb, .inr (13, [.ref bv, .int 0, .int ml, .int (nI tx.length)])), (bv, .inl (cB, cap, .inl g)), (pl, .inr (14, [.ref em, .int 0, .int 0]))]) hD [0, 1, 2] (by decide) rfl
    have hP : va_P (dC, dI) vwCl ([(sb, .inr (13, [.ref bv, .int 0, .int ml, .int (nI tx.length)])), (bv, .inl (cB, cap, .inl g))] ++ ([(pl, .inr (14, [.ref em, .int 0, .int 0]))] ++ fz)) _ := hP
    have hD : va_D A ([(sb, .inr (13, [.ref bv, .int 0, .int ml, .int (nI tx.length)])), (bv, .inl (cB, cap, .inl g))] ++ ([(pl, .inr (14, [.ref em, .int 0, .int 0]))] ++ fz)) := hD
    have hloop : ∀ (k9 : Nat) (i : Nat) (lz : va_W) (nz1 : va_W) (x1 : List Nat) (o1 : List Opn) (bv1 : Nat) (ml1 : Int32) (cap1 : Nat) (g1 : Nat → Int32) (tx1 : List Nat) (H : Heap) (locs : List Loc) (ls : Array Slot), xs.length - i = k9 → (i ≤ xs.length) → (x1.length = i) → (ALc cO em pl x1 lz) → (o1.length = x1.length) → (opsL ((ksR rows).take i) = some o1) → (∀ i, i < x1.length → OPz cB cO em aK (nz1 ++ fz) (o1.getD i ((0, [], [], []) : Opn)) (x1.getD i 0)) → (Bld tx1 cap1 g1) → lv_has ls 5 [(3, .int (nI i)), (2, .ref pl), (0, .ref a), (1, .ref sb)] → va_P (dC, dI) vwCl ([(sb, .inr (13, [.ref bv1, .int 0, .int ml1, .int (nI tx1.length)])), (bv1, .inl (cB, cap1, .inl g1))] ++ (lz ++ (nz1 ++ fz))) H → va_D A ([(sb, .inr (13, [.ref bv1, .int 0, .int ml1, .int (nI tx1.length)])), (bv1, .inl (cB, cap1, .inl g1))] ++ (lz ++ (nz1 ++ fz))) → va_S A s.heap H locs → W p l e (headSpec ws_OP_allOf ({ frames := 9, cells := (10 + 3 * (ksR rows).length + 10 * tln rows), slots := (480 + 10 * (ksR rows).length + 662 * tln rows), locals := 225 })).room s m args below meth c H locs (1 + acl x1.length + 3 * i + 10 * tlS ((ksR rows).take i)) (3 + asl x1.length + 10 * i + 662 * tlS ((ksR rows).take i)) Q (F0 m 20 ls []) := by
      intro k9
      induction k9 using Nat.strongRecOn with
      | ind k9 ih =>
        intro i lz nz1 x1 o1 bv1 ml1 cap1 g1 tx1 H locs ls hk9 hi1 hil hiL hi3 hi5 hi6 hiB hl hP hD hS
        have hgr : ∀ q ∈ fz, q ∈ (lz ++ (nz1 ++ fz)) := fun q hq => List.mem_append_right _ (List.mem_append_right _ hq)
        have hal8 := hal.mono hgr
        have hac0 := ac_8 x1.length (by omega)
        have htk := tlS_le (rs := ksR rows) i
        refine lv_iload_n hx hb d_OP_allOf_20 rfl (lv_at hl 0 rfl) ?_
        refine lv_aload_n hx hb d_OP_allOf_21 rfl (lv_at hl 2 rfl) ?_
        obtain ⟨qz6, hz6⟩ := List.getElem?_of_mem (List.mem_append_right [(sb, .inr (13, [.ref bv1, .int 0, .int ml1, .int (nI tx1.length)])), (bv1, .inl (cB, cap1, .inl g1))] (hgr _ hc))
        refine va_get (D := (dC, dI)) (ci := 3) (v := .ref pa) (C := R_VA) (T := T_VA) (N := 7) hx hb htb in_VA hown hK hP qz6 hz6 rfl 4 (by decide) (htb _ m_394) (fun _ h9 => h9) rfl d_OP_allOf_22 ?_
        have hPc : va_P (dC, dI) vwCl ([] ++ (lz ++ (nz1 ++ fz))) _ := zz_tlP (pre := [(sb, .inr (13, [.ref bv1, .int 0, .int ml1, .int (nI tx1.length)])), (bv1, .inl (cB, cap1, .inl g1))]) (tl := (lz ++ (nz1 ++ fz))) hP
        have hKc := hK.sub (tys' := []) [] rfl
        refine vp_callSi (W.runV (As := []) (rest := [.int (nI i)]) ⟨hx, hb, hml, hown, htb⟩ (z_AL_size l dC dI pa xs cO em (lz ++ (nz1 ++ fz)) hal8) (cwV 0 htb (g_V (fun _ h => h) m_486 m_583 m_484 m_485 m_8) rfl rfl rfl (by decide +kernel) ⟨Nat.le_of_ble_eq_true rfl, Nat.le_of_ble_eq_true rfl⟩) ⟨fun a U g mk q => by obtain ⟨q0, qP, qK⟩ := q; exact ⟨q0, qP, va_K.moved (u := U) (U := U.calling g mk a) (Vm.Alike.refl U.vm) qK⟩, (hal8).recv hK hP (fun q hq => List.mem_append_right _ hq), fun U hU hW => ⟨rfl, by rw [hU]; exact hPc, va_K.moved hW.alike hKc⟩⟩ rfl rfl hl.1 rfl (lv_room (Nat.le_of_ble_eq_true rfl)) d_OP_allOf_25 ⟨(by show (1 + acl x1.length + 3 * i + 10 * tlS ((ksR rows).take i)) ≤ (10 + 3 * (ksR rows).length + 10 * tln rows); omega), (by show (3 + asl x1.length + 10 * i + 662 * tlS ((ksR rows).take i)) ≤ (480 + 10 * (ksR rows).length + 662 * tln rows); omega)⟩) (fun r7 hw8 => ?_)
        have hw8 : r7 = nI xs.length := hw8
        obtain rfl := hw8
        refine lv_icmp_ge (tgt := 68) hx hb d_OP_allOf_28 rfl (fun h2 => ?_) (fun h2 => ?_)
        · have h2 : xs.length ≤ i := (nI_leI (by omega) (by omega)).mp h2
          rw [List.take_of_length_le (by omega)] at hi5
          refine lv_aload_n hx hb d_OP_allOf_68 rfl (lv_at hl 1 rfl) ?_
          have hP := zz_permP (pre := [(sb, .inr (13, [.ref bv1, .int 0, .int ml1, .int (nI tx1.length)])), (bv1, .inl (cB, cap1, .inl g1))]) (t1 := (lz ++ (nz1 ++ fz))) (t2 := ((lz ++ nz1) ++ fz)) hP (pm2 _ _ _)
          have hD := zz_permD (pre := [(sb, .inr (13, [.ref bv1, .int 0, .int ml1, .int (nI tx1.length)])), (bv1, .inl (cB, cap1, .inl g1))]) (t1 := (lz ++ (nz1 ++ fz))) (t2 := ((lz ++ nz1) ++ fz)) hD (pm2 _ _ _)
          have hP9 := zz_pickP (pre := [(sb, .inr (13, [.ref bv1, .int 0, .int ml1, .int (nI tx1.length)])), (bv1, .inl (cB, cap1, .inl g1))]) (fz := ((lz ++ nz1) ++ fz)) (wc := [(sb, .inr (13, [.ref bv1, .int 0, .int ml1, .int (nI tx1.length)])), (bv1, .inl (cB, cap1, .inl g1))]) hP [0, 1] rfl
          have hD9 := zz_pickD (pre := [(sb, .inr (13, [.ref bv1, .int 0, .int ml1, .int (nI tx1.length)])), (bv1, .inl (cB, cap1, .inl g1))]) (fz := ((lz ++ nz1) ++ fz)) (wc := [(sb, .inr (13, [.ref bv1, .int 0, .int ml1, .int (nI tx1.length)])), (bv1, .inl (cB, cap1, .inl g1))]) hD [0, 1] (by decide) rfl
          have hK9 := hK.sub (tys' := [(cB, .byte), (cO, .object "java/lang/Object")]) [0, 1] rfl
          rw [hQ]
          refine W.widen (k := (10 + 3 * (ksR rows).length + 10 * tln rows)) (n := (480 + 10 * (ksR rows).length + 662 * tln rows)) ((by show (1 + acl x1.length + 3 * i + 10 * tlS ((ksR rows).take i)) ≤ (10 + 3 * (ksR rows).length + 10 * tln rows); omega)) ((by show (3 + asl x1.length + 10 * i + 662 * tlS ((ksR rows).take i)) ≤ (480 + 10 * (ksR rows).length + 662 * tln rows); omega)) ?_
          exact W.aret (v := .ref pl) hx hb hr (Or.inl ⟨_, rfl⟩) (Or.inr ⟨_, rfl⟩) (fun t ht hW => ⟨⟨(some pl), (ml1, tx1, cap1, g1, (lz ++ nz1)), rfl, ⟨hiB, Or.inr ⟨pl, x1, o1, rfl, by rw [hall]; exact hi5, hiL.frozen.mono (fun q hq => List.mem_append_left _ (List.mem_append_left _ hq)), hi3, fun i hi => (hi6 i hi).mono (fun q hq => (pm2 lz nz1 fz).mem_iff.mpr (List.mem_append_right _ hq))⟩⟩, ⟨bv1, by rw [ht]; exact hP9, va_K.moved hW.alike hK9, hD9⟩⟩, hS.F ht⟩) hS.2.2 d_OP_allOf_69
        · have h2 : i < xs.length := Nat.not_le.mp (fun h => h2 ((nI_leI (by omega) (by omega)).mpr h))
          have hvt := hvl i h2
          obtain ⟨d2, hd2⟩ := hvt.succ
          have hv2 : VT cB cO em aK (d2 + 1) (lz ++ (nz1 ++ fz)) (xs.getD i 0) (ns.getD i []) ((ksR rows).getD i []) := hd2 ▸ hvt.mono hgr
          obtain ⟨kd0, tx0, nu0, nm0, pa0, dp0, cn0, hc0, hn0⟩ := hv2.cellN
          have htk1 := tlS_take (rs := ksR rows) (i := i) (by omega)
          have htk2 := tlS_le (rs := ksR rows) (i + 1)
          refine lv_aload_n hx hb d_OP_allOf_31 rfl (lv_at hl 2 rfl) ?_
          obtain ⟨qz9, hz9⟩ := List.getElem?_of_mem (List.mem_append_right [(sb, .inr (13, [.ref bv1, .int 0, .int ml1, .int (nI tx1.length)])), (bv1, .inl (cB, cap1, .inl g1))] (hgr _ hc))
          refine va_get (D := (dC, dI)) (ci := 3) (v := .ref pa) (C := R_VA) (T := T_VA) (N := 7) hx hb htb in_VA hown hK hP qz9 hz9 rfl 4 (by decide) (htb _ m_394) (fun _ h9 => h9) rfl d_OP_allOf_32 ?_
          refine lv_iload_n hx hb d_OP_allOf_35 rfl (lv_at hl 0 rfl) ?_
          have hPc : va_P (dC, dI) vwCl ([] ++ (lz ++ (nz1 ++ fz))) _ := zz_tlP (pre := [(sb, .inr (13, [.ref bv1, .int 0, .int ml1, .int (nI tx1.length)])), (bv1, .inl (cB, cap1, .inl g1))]) (tl := (lz ++ (nz1 ++ fz))) hP
          have hKc := hK.sub (tys' := [(cO, .object "java/lang/Object")]) [1] rfl
          refine va_csq (W.runV (As := [.int (nI i)]) (rest := []) ⟨hx, hb, hml, hown, htb⟩ (z_AL_get l dC dI pa xs cO em i (lz ++ (nz1 ++ fz)) hal8 h2) (cwV 1 htb (g_V (fun _ h => h) m_490 m_584 m_488 m_489 m_8) rfl rfl rfl (by decide +kernel) ⟨Nat.le_of_ble_eq_true rfl, Nat.le_of_ble_eq_true rfl⟩) ⟨fun a U g mk q => by obtain ⟨q0, qP, qK⟩ := q; exact ⟨q0, qP, va_K.moved (u := U) (U := U.calling g mk a) (Vm.Alike.refl U.vm) qK⟩, (hal8).recv hK hP (fun q hq => List.mem_append_right _ hq), fun U hU hW => ⟨rfl, by rw [hU]; exact hPc, va_K.moved hW.alike hKc⟩⟩ rfl rfl hl.1 rfl (lv_room (Nat.le_of_ble_eq_true rfl)) d_OP_allOf_36 ⟨(by show (1 + acl x1.length + 3 * i + 10 * tlS ((ksR rows).take i)) ≤ (10 + 3 * (ksR rows).length + 10 * tln rows); omega), (by show (3 + asl x1.length + 10 * i + 662 * tlS ((ksR rows).take i)) ≤ (480 + 10 * (ksR rows).length + 662 * tln rows); omega)⟩) (fun r10 hw11 => ?_)
          have hw11 : r10 = some (xs.getD i 0) := hw11
          obtain rfl := hw11
          refine W.eq (g2 := F0 m 39 ls [.ref (xs.getD i 0)]) rfl ?_
          refine va_castY (C := "PatchStore$Value") hx hb hown (htb _ m_585) (nw_14 hE) (zz_recv hK hP (ci := 3) rfl (List.mem_append_right _ hc0)) d_OP_allOf_39 ?_
          refine lv_aload_n hx hb d_OP_allOf_42 rfl (lv_at hl 3 rfl) ?_
          have hv3 : VT cB cO em aK (d2 + 1) (nz1 ++ fz) (xs.getD i 0) (ns.getD i []) ((ksR rows).getD i []) := hd2 ▸ hvt.mono (fun q hq => List.mem_append_right _ hq)
          obtain ⟨hx0, mo0, hlz⟩ | ⟨k0, mo0, ed0, f0, hk0, hk160, hlz, hf0⟩ := (id hiL : ALc cO em pl x1 lz)
          · rw [hlz] at hP hD hiL
            have hP : va_P (dC, dI) vwCl ([(sb, .inr (13, [.ref bv1, .int 0, .int ml1, .int (nI tx1.length)])), (bv1, .inl (cB, cap1, .inl g1)), (pl, .inr (14, [.ref em, .int 0, .int mo0]))] ++ (nz1 ++ fz)) _ := hP
            have hD : va_D A ([(sb, .inr (13, [.ref bv1, .int 0, .int ml1, .int (nI tx1.length)])), (bv1, .inl (cB, cap1, .inl g1)), (pl, .inr (14, [.ref em, .int 0, .int mo0]))] ++ (nz1 ++ fz)) := hD
            have hPc := zz_pickP (pre := [(sb, .inr (13, [.ref bv1, .int 0, .int ml1, .int (nI tx1.length)])), (bv1, .inl (cB, cap1, .inl g1)), (pl, .inr (14, [.ref em, .int 0, .int mo0]))]) (fz := (nz1 ++ fz)) (wc := [(sb, .inr (13, [.ref bv1, .int 0, .int ml1, .int (nI tx1.length)])), (bv1, .inl (cB, cap1, .inl g1))]) hP [0, 1] rfl
            have hDc := zz_pickD (pre := [(sb, .inr (13, [.ref bv1, .int 0, .int ml1, .int (nI tx1.length)])), (bv1, .inl (cB, cap1, .inl g1)), (pl, .inr (14, [.ref em, .int 0, .int mo0]))]) (fz := (nz1 ++ fz)) (wc := [(sb, .inr (13, [.ref bv1, .int 0, .int ml1, .int (nI tx1.length)])), (bv1, .inl (cB, cap1, .inl g1))]) hD [0, 1] (by decide) rfl
            have hFc := zz_free (pre := [(sb, .inr (13, [.ref bv1, .int 0, .int ml1, .int (nI tx1.length)])), (bv1, .inl (cB, cap1, .inl g1)), (pl, .inr (14, [.ref em, .int 0, .int mo0]))]) (fz := (nz1 ++ fz)) (wc := [(sb, .inr (13, [.ref bv1, .int 0, .int ml1, .int (nI tx1.length)])), (bv1, .inl (cB, cap1, .inl g1))]) hD hS hA [0, 1] rfl
            have hKc := hK.sub (tys' := [(cB, .byte), (cO, .object "java/lang/Object")]) [0, 1] rfl
            refine va_callq (va_runS (As := [.ref (xs.getD i 0), .ref sb]) (rest := []) ⟨hx, hb, hml, hown, htb⟩ (k_OP_of l dC dI _ (xs.getD i 0) d2 (ns.getD i []) ((ksR rows).getD i []) sb bv1 ml1 cB g1 cap1 tx1 cO em aK aV (nz1 ++ fz) hv3 hiB (by omega)) (va_cwS 2 htb (g_S (fun _ h => h) m_588 m_586 m_587 m_20) rfl rfl rfl (by decide +kernel) ⟨Nat.le_of_ble_eq_true rfl, Nat.le_of_ble_eq_true rfl⟩) ⟨fun a U g mk q => by obtain ⟨q0, q1, qP, qK, qD, z0⟩ := q; exact ⟨q0, q1, qP, va_K.moved (u := U) (U := U.calling g mk a) (Vm.Alike.refl U.vm) qK, qD, EX.same (U := U) (U' := U.calling g mk a) rfl z0⟩, fun U hU hW => ⟨rfl, by rw [hU], by rw [hU]; exact hPc, va_K.moved hW.alike hKc, hDc.weaken (fun _ _ _ _ => trivial), by rw [hU]; exact EX.warm hW ((hE.kept (fun a h1 h2 => hS.2.1 a h1 h2)).narrow hFc)⟩⟩ rfl rfl hl.1 rfl (lv_room (Nat.le_of_ble_eq_true rfl)) d_OP_allOf_43 ⟨(by show ((1 + acl x1.length + 3 * i + 10 * tlS ((ksR rows).take i)) + (3 + 10 * tln ((ksR rows).getD i []))) ≤ (10 + 3 * (ksR rows).length + 10 * tln rows); omega), (by show ((3 + asl x1.length + 10 * i + 662 * tlS ((ksR rows).take i)) + (10 + 662 * tln ((ksR rows).getD i []))) ≤ (480 + 10 * (ksR rows).length + 662 * tln rows); omega)⟩) hS (fun q _ h => hFc q h) hFc (fun r13 u12 t H1 locs ht hvm hw14 hB hz1 hk1 hS => ?_)
            obtain ⟨x16, hP1, hK1, hD1⟩ := hB
            rw [ht] at hP1
            have hK1 := va_K.moved hvm.symm hK1
            obtain ⟨w17, w18, w19, w20, w21⟩ := u12
            have hw14 : Bld w18 w19 w20 ∧ ((r13 = none ∧ opR ((ksR rows).getD i []) = none) ∨ ∃ y8 o8, r13 = some y8 ∧ opR ((ksR rows).getD i []) = some o8 ∧ OPz cB cO em aK (w21 ++ (nz1 ++ fz)) o8 y8) := hw14
            obtain ⟨hP, hD⟩ := zz_join (pre := [(sb, .inr (13, [.ref bv1, .int 0, .int ml1, .int (nI tx1.length)])), (bv1, .inl (cB, cap1, .inl g1)), (pl, .inr (14, [.ref em, .int 0, .int mo0]))]) (fz := (nz1 ++ fz)) (wc := [(sb, .inr (13, [.ref bv1, .int 0, .int ml1, .int (nI tx1.length)])), (bv1, .inl (cB, cap1, .inl g1))]) (wr := [(pl, .inr (14, [.ref em, .int 0, .int mo0]))]) (w1 := ([(sb, .inr (13, [.ref x16, .int 0, .int w17, .int (nI w18.length)])), (x16, .inl (cB, w19, .inl w20))] ++ (w21 ++ (nz1 ++ fz)))) hP hD [0, 1] [2] rfl rfl (by decide) (by decide) hk1 hFc hP1 hD1
            have hK := (hK.sub (tys' := []) [] rfl).app hK1
            generalize H1 = H at hP hS ⊢
            have hP : va_P (dC, dI) vwCl ([(pl, .inr (14, [.ref em, .int 0, .int mo0])), (sb, .inr (13, [.ref x16, .int 0, .int w17, .int (nI w18.length)])), (x16, .inl (cB, w19, .inl w20))] ++ (w21 ++ (nz1 ++ fz))) H := hP
            have hD : va_D A ([(pl, .inr (14, [.ref em, .int 0, .int mo0])), (sb, .inr (13, [.ref x16, .int 0, .int w17, .int (nI w18.length)])), (x16, .inl (cB, w19, .inl w20))] ++ (w21 ++ (nz1 ++ fz))) := hD
            have hK : va_K (dC, dI) vwCl [(cB, .byte), (cO, .object "java/lang/Object")] s := hK
            obtain ⟨hB2, ⟨rfl, hob⟩ | ⟨yo, ob, rfl, hos, hoz⟩⟩ := hw14
            · refine W.eq (g2 := F0 m 46 ls [.null]) rfl ?_
              refine lv_astoreN hx hb d_OP_allOf_46 hl (by decide) rfl (fun ls hl => ?_)
              have hl : lv_has ls 5 [(4, .null), (3, .int (nI i)), (2, .ref pl), (0, .ref a), (1, .ref sb)] := hl
              refine lv_aloadN hx hb d_OP_allOf_48 (lv_at hl 0 rfl) ?_
              refine lv_ifnonnullN hx hb d_OP_allOf_50 ?_
              refine lv_null hx hb d_OP_allOf_53 ?_
              have hP := zz_pickP (pre := [(pl, .inr (14, [.ref em, .int 0, .int mo0])), (sb, .inr (13, [.ref x16, .int 0, .int w17, .int (nI w18.length)])), (x16, .inl (cB, w19, .inl w20))]) (fz := (w21 ++ (nz1 ++ fz))) (wc := [(sb, .inr (13, [.ref x16, .int 0, .int w17, .int (nI w18.length)])), (x16, .inl (cB, w19, .inl w20)), (pl, .inr (14, [.ref em, .int 0, .int mo0]))]) hP [1, 2, 0] rfl
              have hD := zz_pickD (pre := [(pl, .inr (14, [.ref em, .int 0, .int mo0])), (sb, .inr (13, [.ref x16, .int 0, .int w17, .int (nI w18.length)])), (x16, .inl (cB, w19, .inl w20))]) (fz := (w21 ++ (nz1 ++ fz))) (wc := [(sb, .inr (13, [.ref x16, .int 0, .int w17, .int (nI w18.length)])), (x16, .inl (cB, w19, .inl w20)), (pl, .inr (14, [.ref em, .int 0, .int mo0]))]) hD [1, 2, 0] (by decide) rfl
              have hP : va_P (dC, dI) vwCl ([(sb, .inr (13, [.ref x16, .int 0, .int w17, .int (nI w18.length)])), (x16, .inl (cB, w19, .inl w20))] ++ ([(pl, .inr (14, [.ref em, .int 0, .int mo0]))] ++ (w21 ++ (nz1 ++ fz)))) _ := hP
              have hD : va_D A ([(sb, .inr (13, [.ref x16, .int 0, .int w17, .int (nI w18.length)])), (x16, .inl (cB, w19, .inl w20))] ++ ([(pl, .inr (14, [.ref em, .int 0, .int mo0]))] ++ (w21 ++ (nz1 ++ fz)))) := hD
              have hP := zz_permP (pre := [(sb, .inr (13, [.ref x16, .int 0, .int w17, .int (nI w18.length)])), (x16, .inl (cB, w19, .inl w20))]) (t1 := ([(pl, .inr (14, [.ref em, .int 0, .int mo0]))] ++ (w21 ++ (nz1 ++ fz)))) (t2 := (([(pl, .inr (14, [.ref em, .int 0, .int mo0]))] ++ (w21 ++ nz1)) ++ fz)) hP (pm3 _ _ _ _)
              have hD := zz_permD (pre := [(sb, .inr (13, [.ref x16, .int 0, .int w17, .int (nI w18.length)])), (x16, .inl (cB, w19, .inl w20))]) (t1 := ([(pl, .inr (14, [.ref em, .int 0, .int mo0]))] ++ (w21 ++ (nz1 ++ fz)))) (t2 := (([(pl, .inr (14, [.ref em, .int 0, .int mo0]))] ++ (w21 ++ nz1)) ++ fz)) hD (pm3 _ _ _ _)
              have hP9 := zz_pickP (pre := [(sb, .inr (13, [.ref x16, .int 0, .int w17, .int (nI w18.length)])), (x16, .inl (cB, w19, .inl w20))]) (fz := (([(pl, .inr (14, [.ref em, .int 0, .int mo0]))] ++ (w21 ++ nz1)) ++ fz)) (wc := [(sb, .inr (13, [.ref x16, .int 0, .int w17, .int (nI w18.length)])), (x16, .inl (cB, w19, .inl w20))]) hP [0, 1] rfl
              have hD9 := zz_pickD (pre := [(sb, .inr (13, [.ref x16, .int 0, .int w17, .int (nI w18.length)])), (x16, .inl (cB, w19, .inl w20))]) (fz := (([(pl, .inr (14, [.ref em, .int 0, .int mo0]))] ++ (w21 ++ nz1)) ++ fz)) (wc := [(sb, .inr (13, [.ref x16, .int 0, .int w17, .int (nI w18.length)])), (x16, .inl (cB, w19, .inl w20))]) hD [0, 1] (by decide) rfl
              have hK9 := hK.sub (tys' := [(cB, .byte), (cO, .object "java/lang/Object")]) [0, 1] rfl
              rw [hQ]
              refine W.widen (k := (10 + 3 * (ksR rows).length + 10 * tln rows)) (n := (480 + 10 * (ksR rows).length + 662 * tln rows)) ((by show ((1 + acl x1.length + 3 * i + 10 * tlS ((ksR rows).take i)) + (3 + 10 * tln ((ksR rows).getD i []))) ≤ (10 + 3 * (ksR rows).length + 10 * tln rows); omega)) ((by show ((3 + asl x1.length + 10 * i + 662 * tlS ((ksR rows).take i)) + (10 + 662 * tln ((ksR rows).getD i []))) ≤ (480 + 10 * (ksR rows).length + 662 * tln rows); omega)) ?_
              exact W.aret (v := .null) hx hb hr (Or.inl ⟨_, rfl⟩) (Or.inl rfl) (fun t ht hW => ⟨⟨none, (w17, w18, w19, w20, ([(pl, .inr (14, [.ref em, .int 0, .int mo0]))] ++ (w21 ++ nz1))), rfl, ⟨hB2, Or.inl ⟨rfl, by rw [hall]; exact opsL_bad (by omega) hob⟩⟩, ⟨x16, by rw [ht]; exact hP9, va_K.moved hW.alike hK9, hD9⟩⟩, hS.F ht⟩) hS.2.2 d_OP_allOf_54
            · refine W.eq (g2 := F0 m 46 ls [.ref yo]) rfl ?_
              refine lv_astore hx hb d_OP_allOf_46 hl (by decide) rfl (fun ls hl => ?_)
              have hl : lv_has ls 5 [(4, .ref yo), (3, .int (nI i)), (2, .ref pl), (0, .ref a), (1, .ref sb)] := hl
              refine lv_aload hx hb d_OP_allOf_48 (lv_at hl 0 rfl) ?_
              refine lv_ifnonnull (tgt := 55) hx hb d_OP_allOf_50 rfl ?_
              have hP := zz_pickP (pre := [(pl, .inr (14, [.ref em, .int 0, .int mo0])), (sb, .inr (13, [.ref x16, .int 0, .int w17, .int (nI w18.length)])), (x16, .inl (cB, w19, .inl w20))]) (fz := (w21 ++ (nz1 ++ fz))) (wc := [(sb, .inr (13, [.ref x16, .int 0, .int w17, .int (nI w18.length)])), (x16, .inl (cB, w19, .inl w20)), (pl, .inr (14, [.ref em, .int 0, .int mo0]))]) hP [1, 2, 0] rfl
              have hD := zz_pickD (pre := [(pl, .inr (14, [.ref em, .int 0, .int mo0])), (sb, .inr (13, [.ref x16, .int 0, .int w17, .int (nI w18.length)])), (x16, .inl (cB, w19, .inl w20))]) (fz := (w21 ++ (nz1 ++ fz))) (wc := [(sb, .inr (13, [.ref x16, .int 0, .int w17, .int (nI w18.length)])), (x16, .inl (cB, w19, .inl w20)), (pl, .inr (14, [.ref em, .int 0, .int mo0]))]) hD [1, 2, 0] (by decide) rfl
              have hP : va_P (dC, dI) vwCl ([(sb, .inr (13, [.ref x16, .int 0, .int w17, .int (nI w18.length)])), (x16, .inl (cB, w19, .inl w20))] ++ ([(pl, .inr (14, [.ref em, .int 0, .int mo0]))] ++ (w21 ++ (nz1 ++ fz)))) _ := hP
              have hD : va_D A ([(sb, .inr (13, [.ref x16, .int 0, .int w17, .int (nI w18.length)])), (x16, .inl (cB, w19, .inl w20))] ++ ([(pl, .inr (14, [.ref em, .int 0, .int mo0]))] ++ (w21 ++ (nz1 ++ fz)))) := hD
              have hP := zz_permP (pre := [(sb, .inr (13, [.ref x16, .int 0, .int w17, .int (nI w18.length)])), (x16, .inl (cB, w19, .inl w20))]) (t1 := ([(pl, .inr (14, [.ref em, .int 0, .int mo0]))] ++ (w21 ++ (nz1 ++ fz)))) (t2 := ([(pl, .inr (14, [.ref em, .int 0, .int mo0]))] ++ ((w21 ++ nz1) ++ fz))) hP (List.Perm.append_left _ (pm2 _ _ _))
              have hD := zz_permD (pre := [(sb, .inr (13, [.ref x16, .int 0, .int w17, .int (nI w18.length)])), (x16, .inl (cB, w19, .inl w20))]) (t1 := ([(pl, .inr (14, [.ref em, .int 0, .int mo0]))] ++ (w21 ++ (nz1 ++ fz)))) (t2 := ([(pl, .inr (14, [.ref em, .int 0, .int mo0]))] ++ ((w21 ++ nz1) ++ fz))) hD (List.Perm.append_left _ (pm2 _ _ _))
              have hac := ac_mono x1.length (by omega)
              have hac1 := ac_8 (x1.length + 1) (by omega)
              have hgA : ∀ q ∈ (w21 ++ (nz1 ++ fz)), q ∈ ((w21 ++ nz1) ++ fz) := fun q hq => (pm2 _ _ _ : ((w21 ++ nz1) ++ fz).Perm (w21 ++ (nz1 ++ fz))).mem_iff.mpr hq
              have hgN : ∀ q ∈ (nz1 ++ fz), q ∈ ((w21 ++ nz1) ++ fz) := fun q hq => hgA q (List.mem_append_right _ hq)
              have hoz2 : OPz cB cO em aK ((w21 ++ nz1) ++ fz) ob yo := hoz.mono hgA
              refine lv_aload_n hx hb d_OP_allOf_55 rfl (lv_at hl 2 rfl) ?_
              refine lv_aload hx hb d_OP_allOf_56 (lv_at hl 0 rfl) ?_
              have hPc := zz_pickP (pre := [(sb, .inr (13, [.ref x16, .int 0, .int w17, .int (nI w18.length)])), (x16, .inl (cB, w19, .inl w20))]) (fz := ([(pl, .inr (14, [.ref em, .int 0, .int mo0]))] ++ ((w21 ++ nz1) ++ fz))) (wc := []) hP [] rfl
              have hDc := zz_pickD (pre := [(sb, .inr (13, [.ref x16, .int 0, .int w17, .int (nI w18.length)])), (x16, .inl (cB, w19, .inl w20))]) (fz := ([(pl, .inr (14, [.ref em, .int 0, .int mo0]))] ++ ((w21 ++ nz1) ++ fz))) (wc := []) hD [] (by decide) rfl
              have hFc := zz_free (pre := [(sb, .inr (13, [.ref x16, .int 0, .int w17, .int (nI w18.length)])), (x16, .inl (cB, w19, .inl w20))]) (fz := ([(pl, .inr (14, [.ref em, .int 0, .int mo0]))] ++ ((w21 ++ nz1) ++ fz))) (wc := []) hD hS hA [] rfl
              have hKc := hK.sub (tys' := [(cO, .object "java/lang/Object")]) [1] rfl
              refine va_calli (va_runV (As := [.ref yo]) (rest := []) ⟨hx, hb, hml, hown, htb⟩ (k_AL_add l dC dI _ pl x1 cO 4 yo em aK aV ([(pl, .inr (14, [.ref em, .int 0, .int mo0]))]) ((w21 ++ nz1) ++ fz) Oci4 hiL (of_getD (z := 0) (fun i hi => ((hi6 i hi).mono hgN).vin)) hoz2.vin (by omega)) (cwV 1 htb (g_V (fun _ h => h) m_525 m_748 m_523 m_524 m_8) rfl rfl rfl (by decide +kernel) ⟨Nat.le_of_ble_eq_true rfl, Nat.le_of_ble_eq_true rfl⟩) ⟨fun a U g mk q => by obtain ⟨q0, q1, qP, qK, qD, z0⟩ := q; exact ⟨q0, q1, qP, va_K.moved (u := U) (U := U.calling g mk a) (Vm.Alike.refl U.vm) qK, qD, EX.same (U := U) (U' := U.calling g mk a) rfl z0⟩, (hiL.frozen).recv hK hP (fun q hq => List.mem_append_right _ (List.mem_append_left _ hq)), fun U hU hW => ⟨rfl, by rw [hU], by rw [hU]; exact hPc, va_K.moved hW.alike hKc, hDc.weaken (fun _ _ _ _ => trivial), by rw [hU]; exact EX.warm hW ((hE.kept (fun a h1 h2 => hS.2.1 a h1 h2)).narrow hFc)⟩⟩ rfl rfl hl.1 rfl (lv_room (Nat.le_of_ble_eq_true rfl)) d_OP_allOf_58 ⟨(by show (((1 + acl x1.length + 3 * i + 10 * tlS ((ksR rows).take i)) + (3 + 10 * tln ((ksR rows).getD i []))) + (acl (x1.length + 1) - acl x1.length)) ≤ (10 + 3 * (ksR rows).length + 10 * tln rows); omega), (by show (((3 + asl x1.length + 10 * i + 662 * tlS ((ksR rows).take i)) + (10 + 662 * tln ((ksR rows).getD i []))) + (asl (x1.length + 1) - asl x1.length)) ≤ (480 + 10 * (ksR rows).length + 662 * tln rows); omega)⟩) hS (fun q _ h => hFc q h) hFc (fun r23 u22 t H1 locs ht hvm hw24 hB hz1 hk1 hS => ?_)
              obtain ⟨hP1, hK1, hD1⟩ := hB
              rw [ht] at hP1
              have hK1 := va_K.moved hvm.symm hK1
              have hw24 : ALc cO em pl (x1 ++ [yo]) u22 := hw24
              obtain ⟨hP, hD⟩ := zz_join (pre := [(sb, .inr (13, [.ref x16, .int 0, .int w17, .int (nI w18.length)])), (x16, .inl (cB, w19, .inl w20))]) (fz := ([(pl, .inr (14, [.ref em, .int 0, .int mo0]))] ++ ((w21 ++ nz1) ++ fz))) (wc := []) (wr := [(sb, .inr (13, [.ref x16, .int 0, .int w17, .int (nI w18.length)])), (x16, .inl (cB, w19, .inl w20))]) (w1 := ([] ++ (u22 ++ ((w21 ++ nz1) ++ fz)))) hP hD [] [0, 1] rfl rfl (by decide) (by decide) hk1 hFc hP1 hD1
              have hK := (hK.sub (tys' := [(cB, .byte)]) [0] rfl).app hK1
              generalize H1 = H at hP hS ⊢
              have hP : va_P (dC, dI) vwCl ([(sb, .inr (13, [.ref x16, .int 0, .int w17, .int (nI w18.length)])), (x16, .inl (cB, w19, .inl w20))] ++ (u22 ++ ((w21 ++ nz1) ++ fz))) H := hP
              have hD : va_D A ([(sb, .inr (13, [.ref x16, .int 0, .int w17, .int (nI w18.length)])), (x16, .inl (cB, w19, .inl w20))] ++ (u22 ++ ((w21 ++ nz1) ++ fz))) := hD
              have hK : va_K (dC, dI) vwCl [(cB, .byte), (cO, .object "java/lang/Object")] s := hK
              have hxl : (x1 ++ [yo]).length = x1.length + 1 := by simp
              have hax : acl (x1 ++ [yo]).length = acl (x1.length + 1) := by rw [hxl]
              have hay : asl (x1 ++ [yo]).length = asl (x1.length + 1) := by rw [hxl]
              have hol : (o1 ++ [ob]).length = (x1 ++ [yo]).length := by simp; omega
              refine lv_pop hx hb d_OP_allOf_61 rfl ?_
              refine lv_iinc (k := 1) (v := ((nI i) + Int32.ofInt 1)) hx hb d_OP_allOf_62 hl rfl rfl (by decide) rfl (fun ls hl => ?_)
              have hl : lv_has ls 5 [(3, .int ((nI i) + Int32.ofInt 1)), (4, .ref yo), (2, .ref pl), (0, .ref a), (1, .ref sb)] := hl
              rw [show nI i + Int32.ofInt 1 = nI (i + 1) from nI_1 _] at hl
              refine lv_goto (tgt := 20) hx hb d_OP_allOf_65 rfl ?_
              refine W.widen (k := (1 + acl (x1 ++ [yo]).length + 3 * (i + 1) + 10 * tlS ((ksR rows).take (i + 1)))) (n := (3 + asl (x1 ++ [yo]).length + 10 * (i + 1) + 662 * tlS ((ksR rows).take (i + 1)))) (by omega) (by omega) ?_
              exact ih (xs.length - (i + 1)) (by omega) (i + 1) u22 (w21 ++ nz1) (x1 ++ [yo]) (o1 ++ [ob]) x16 w17 w19 w20 w18 H locs ls rfl (by omega) (by omega) (hw24) (hol) (by rw [take_step [] (by omega)]; exact opsL_snoc hi5 hos) (ol_app hi3 (fun i hi => (hi6 i hi).mono hgN) hoz2) (hB2) (lv_sub hl [0, 2, 3, 4] rfl) (zz_pickP (pre := [(sb, .inr (13, [.ref x16, .int 0, .int w17, .int (nI w18.length)])), (x16, .inl (cB, w19, .inl w20))]) (fz := (u22 ++ ((w21 ++ nz1) ++ fz))) (wc := [(sb, .inr (13, [.ref x16, .int 0, .int w17, .int (nI w18.length)])), (x16, .inl (cB, w19, .inl w20))]) hP [0, 1] rfl) (zz_pickD (pre := [(sb, .inr (13, [.ref x16, .int 0, .int w17, .int (nI w18.length)])), (x16, .inl (cB, w19, .inl w20))]) (fz := (u22 ++ ((w21 ++ nz1) ++ fz))) (wc := [(sb, .inr (13, [.ref x16, .int 0, .int w17, .int (nI w18.length)])), (x16, .inl (cB, w19, .inl w20))]) hD [0, 1] (by decide) rfl) hS
          · rw [hlz] at hP hD hiL
            have hP : va_P (dC, dI) vwCl ([(sb, .inr (13, [.ref bv1, .int 0, .int ml1, .int (nI tx1.length)])), (bv1, .inl (cB, cap1, .inl g1)), (pl, .inr (14, [.ref ed0, .int (nI (k0 + 1)), .int mo0])), (ed0, .inl (cO, (acap (k0 + 1)), .inr (.inr (.inr (.inr f0)))))] ++ (nz1 ++ fz)) _ := hP
            have hD : va_D A ([(sb, .inr (13, [.ref bv1, .int 0, .int ml1, .int (nI tx1.length)])), (bv1, .inl (cB, cap1, .inl g1)), (pl, .inr (14, [.ref ed0, .int (nI (k0 + 1)), .int mo0])), (ed0, .inl (cO, (acap (k0 + 1)), .inr (.inr (.inr (.inr f0)))))] ++ (nz1 ++ fz)) := hD
            have hPc := zz_pickP (pre := [(sb, .inr (13, [.ref bv1, .int 0, .int ml1, .int (nI tx1.length)])), (bv1, .inl (cB, cap1, .inl g1)), (pl, .inr (14, [.ref ed0, .int (nI (k0 + 1)), .int mo0])), (ed0, .inl (cO, (acap (k0 + 1)), .inr (.inr (.inr (.inr f0)))))]) (fz := (nz1 ++ fz)) (wc := [(sb, .inr (13, [.ref bv1, .int 0, .int ml1, .int (nI tx1.length)])), (bv1, .inl (cB, cap1, .inl g1))]) hP [0, 1] rfl
            have hDc := zz_pickD (pre := [(sb, .inr (13, [.ref bv1, .int 0, .int ml1, .int (nI tx1.length)])), (bv1, .inl (cB, cap1, .inl g1)), (pl, .inr (14, [.ref ed0, .int (nI (k0 + 1)), .int mo0])), (ed0, .inl (cO, (acap (k0 + 1)), .inr (.inr (.inr (.inr f0)))))]) (fz := (nz1 ++ fz)) (wc := [(sb, .inr (13, [.ref bv1, .int 0, .int ml1, .int (nI tx1.length)])), (bv1, .inl (cB, cap1, .inl g1))]) hD [0, 1] (by decide) rfl
            have hFc := zz_free (pre := [(sb, .inr (13, [.ref bv1, .int 0, .int ml1, .int (nI tx1.length)])), (bv1, .inl (cB, cap1, .inl g1)), (pl, .inr (14, [.ref ed0, .int (nI (k0 + 1)), .int mo0])), (ed0, .inl (cO, (acap (k0 + 1)), .inr (.inr (.inr (.inr f0)))))]) (fz := (nz1 ++ fz)) (wc := [(sb, .inr (13, [.ref bv1, .int 0, .int ml1, .int (nI tx1.length)])), (bv1, .inl (cB, cap1, .inl g1))]) hD hS hA [0, 1] rfl
            have hKc := hK.sub (tys' := [(cB, .byte), (cO, .object "java/lang/Object")]) [0, 1] rfl
            refine va_callq (va_runS (As := [.ref (xs.getD i 0), .ref sb]) (rest := []) ⟨hx, hb, hml, hown, htb⟩ (k_OP_of l dC dI _ (xs.getD i 0) d2 (ns.getD i []) ((ksR rows).getD i []) sb bv1 ml1 cB g1 cap1 tx1 cO em aK aV (nz1 ++ fz) hv3 hiB (by omega)) (va_cwS 2 htb (g_S (fun _ h => h) m_588 m_586 m_587 m_20) rfl rfl rfl (by decide +kernel) ⟨Nat.le_of_ble_eq_true rfl, Nat.le_of_ble_eq_true rfl⟩) ⟨fun a U g mk q => by obtain ⟨q0, q1, qP, qK, qD, z0⟩ := q; exact ⟨q0, q1, qP, va_K.moved (u := U) (U := U.calling g mk a) (Vm.Alike.refl U.vm) qK, qD, EX.same (U := U) (U' := U.calling g mk a) rfl z0⟩, fun U hU hW => ⟨rfl, by rw [hU], by rw [hU]; exact hPc, va_K.moved hW.alike hKc, hDc.weaken (fun _ _ _ _ => trivial), by rw [hU]; exact EX.warm hW ((hE.kept (fun a h1 h2 => hS.2.1 a h1 h2)).narrow hFc)⟩⟩ rfl rfl hl.1 rfl (lv_room (Nat.le_of_ble_eq_true rfl)) d_OP_allOf_43 ⟨(by show ((1 + acl x1.length + 3 * i + 10 * tlS ((ksR rows).take i)) + (3 + 10 * tln ((ksR rows).getD i []))) ≤ (10 + 3 * (ksR rows).length + 10 * tln rows); omega), (by show ((3 + asl x1.length + 10 * i + 662 * tlS ((ksR rows).take i)) + (10 + 662 * tln ((ksR rows).getD i []))) ≤ (480 + 10 * (ksR rows).length + 662 * tln rows); omega)⟩) hS (fun q _ h => hFc q h) hFc (fun r13 u12 t H1 locs ht hvm hw14 hB hz1 hk1 hS => ?_)
            obtain ⟨x16, hP1, hK1, hD1⟩ := hB
            rw [ht] at hP1
            have hK1 := va_K.moved hvm.symm hK1
            obtain ⟨w17, w18, w19, w20, w21⟩ := u12
            have hw14 : Bld w18 w19 w20 ∧ ((r13 = none ∧ opR ((ksR rows).getD i []) = none) ∨ ∃ y8 o8, r13 = some y8 ∧ opR ((ksR rows).getD i []) = some o8 ∧ OPz cB cO em aK (w21 ++ (nz1 ++ fz)) o8 y8) := hw14
            obtain ⟨hP, hD⟩ := zz_join (pre := [(sb, .inr (13, [.ref bv1, .int 0, .int ml1, .int (nI tx1.length)])), (bv1, .inl (cB, cap1, .inl g1)), (pl, .inr (14, [.ref ed0, .int (nI (k0 + 1)), .int mo0])), (ed0, .inl (cO, (acap (k0 + 1)), .inr (.inr (.inr (.inr f0)))))]) (fz := (nz1 ++ fz)) (wc := [(sb, .inr (13, [.ref bv1, .int 0, .int ml1, .int (nI tx1.length)])), (bv1, .inl (cB, cap1, .inl g1))]) (wr := [(pl, .inr (14, [.ref ed0, .int (nI (k0 + 1)), .int mo0])), (ed0, .inl (cO, (acap (k0 + 1)), .inr (.inr (.inr (.inr f0)))))]) (w1 := ([(sb, .inr (13, [.ref x16, .int 0, .int w17, .int (nI w18.length)])), (x16, .inl (cB, w19, .inl w20))] ++ (w21 ++ (nz1 ++ fz)))) hP hD [0, 1] [2, 3] rfl rfl (by decide) (by decide) hk1 hFc hP1 hD1
            have hK := (hK.sub (tys' := []) [] rfl).app hK1
            generalize H1 = H at hP hS ⊢
            have hP : va_P (dC, dI) vwCl ([(pl, .inr (14, [.ref ed0, .int (nI (k0 + 1)), .int mo0])), (ed0, .inl (cO, (acap (k0 + 1)), .inr (.inr (.inr (.inr f0))))), (sb, .inr (13, [.ref x16, .int 0, .int w17, .int (nI w18.length)])), (x16, .inl (cB, w19, .inl w20))] ++ (w21 ++ (nz1 ++ fz))) H := hP
            have hD : va_D A ([(pl, .inr (14, [.ref ed0, .int (nI (k0 + 1)), .int mo0])), (ed0, .inl (cO, (acap (k0 + 1)), .inr (.inr (.inr (.inr f0))))), (sb, .inr (13, [.ref x16, .int 0, .int w17, .int (nI w18.length)])), (x16, .inl (cB, w19, .inl w20))] ++ (w21 ++ (nz1 ++ fz))) := hD
            have hK : va_K (dC, dI) vwCl [(cB, .byte), (cO, .object "java/lang/Object")] s := hK
            obtain ⟨hB2, ⟨rfl, hob⟩ | ⟨yo, ob, rfl, hos, hoz⟩⟩ := hw14
            · refine W.eq (g2 := F0 m 46 ls [.null]) rfl ?_
              refine lv_astoreN hx hb d_OP_allOf_46 hl (by decide) rfl (fun ls hl => ?_)
              have hl : lv_has ls 5 [(4, .null), (3, .int (nI i)), (2, .ref pl), (0, .ref a), (1, .ref sb)] := hl
              refine lv_aloadN hx hb d_OP_allOf_48 (lv_at hl 0 rfl) ?_
              refine lv_ifnonnullN hx hb d_OP_allOf_50 ?_
              refine lv_null hx hb d_OP_allOf_53 ?_
              have hP := zz_pickP (pre := [(pl, .inr (14, [.ref ed0, .int (nI (k0 + 1)), .int mo0])), (ed0, .inl (cO, (acap (k0 + 1)), .inr (.inr (.inr (.inr f0))))), (sb, .inr (13, [.ref x16, .int 0, .int w17, .int (nI w18.length)])), (x16, .inl (cB, w19, .inl w20))]) (fz := (w21 ++ (nz1 ++ fz))) (wc := [(sb, .inr (13, [.ref x16, .int 0, .int w17, .int (nI w18.length)])), (x16, .inl (cB, w19, .inl w20)), (pl, .inr (14, [.ref ed0, .int (nI (k0 + 1)), .int mo0])), (ed0, .inl (cO, (acap (k0 + 1)), .inr (.inr (.inr (.inr f0)))))]) hP [2, 3, 0, 1] rfl
              have hD := zz_pickD (pre := [(pl, .inr (14, [.ref ed0, .int (nI (k0 + 1)), .int mo0])), (ed0, .inl (cO, (acap (k0 + 1)), .inr (.inr (.inr (.inr f0))))), (sb, .inr (13, [.ref x16, .int 0, .int w17, .int (nI w18.length)])), (x16, .inl (cB, w19, .inl w20))]) (fz := (w21 ++ (nz1 ++ fz))) (wc := [(sb, .inr (13, [.ref x16, .int 0, .int w17, .int (nI w18.length)])), (x16, .inl (cB, w19, .inl w20)), (pl, .inr (14, [.ref ed0, .int (nI (k0 + 1)), .int mo0])), (ed0, .inl (cO, (acap (k0 + 1)), .inr (.inr (.inr (.inr f0)))))]) hD [2, 3, 0, 1] (by decide) rfl
              have hP : va_P (dC, dI) vwCl ([(sb, .inr (13, [.ref x16, .int 0, .int w17, .int (nI w18.length)])), (x16, .inl (cB, w19, .inl w20))] ++ ([(pl, .inr (14, [.ref ed0, .int (nI (k0 + 1)), .int mo0])), (ed0, .inl (cO, (acap (k0 + 1)), .inr (.inr (.inr (.inr f0)))))] ++ (w21 ++ (nz1 ++ fz)))) _ := hP
              have hD : va_D A ([(sb, .inr (13, [.ref x16, .int 0, .int w17, .int (nI w18.length)])), (x16, .inl (cB, w19, .inl w20))] ++ ([(pl, .inr (14, [.ref ed0, .int (nI (k0 + 1)), .int mo0])), (ed0, .inl (cO, (acap (k0 + 1)), .inr (.inr (.inr (.inr f0)))))] ++ (w21 ++ (nz1 ++ fz)))) := hD
              have hP := zz_permP (pre := [(sb, .inr (13, [.ref x16, .int 0, .int w17, .int (nI w18.length)])), (x16, .inl (cB, w19, .inl w20))]) (t1 := ([(pl, .inr (14, [.ref ed0, .int (nI (k0 + 1)), .int mo0])), (ed0, .inl (cO, (acap (k0 + 1)), .inr (.inr (.inr (.inr f0)))))] ++ (w21 ++ (nz1 ++ fz)))) (t2 := (([(pl, .inr (14, [.ref ed0, .int (nI (k0 + 1)), .int mo0])), (ed0, .inl (cO, (acap (k0 + 1)), .inr (.inr (.inr (.inr f0)))))] ++ (w21 ++ nz1)) ++ fz)) hP (pm3 _ _ _ _)
              have hD := zz_permD (pre := [(sb, .inr (13, [.ref x16, .int 0, .int w17, .int (nI w18.length)])), (x16, .inl (cB, w19, .inl w20))]) (t1 := ([(pl, .inr (14, [.ref ed0, .int (nI (k0 + 1)), .int mo0])), (ed0, .inl (cO, (acap (k0 + 1)), .inr (.inr (.inr (.inr f0)))))] ++ (w21 ++ (nz1 ++ fz)))) (t2 := (([(pl, .inr (14, [.ref ed0, .int (nI (k0 + 1)), .int mo0])), (ed0, .inl (cO, (acap (k0 + 1)), .inr (.inr (.inr (.inr f0)))))] ++ (w21 ++ nz1)) ++ fz)) hD (pm3 _ _ _ _)
              have hP9 := zz_pickP (pre := [(sb, .inr (13, [.ref x16, .int 0, .int w17, .int (nI w18.length)])), (x16, .inl (cB, w19, .inl w20))]) (fz := (([(pl, .inr (14, [.ref ed0, .int (nI (k0 + 1)), .int mo0])), (ed0, .inl (cO, (acap (k0 + 1)), .inr (.inr (.inr (.inr f0)))))] ++ (w21 ++ nz1)) ++ fz)) (wc := [(sb, .inr (13, [.ref x16, .int 0, .int w17, .int (nI w18.length)])), (x16, .inl (cB, w19, .inl w20))]) hP [0, 1] rfl
              have hD9 := zz_pickD (pre := [(sb, .inr (13, [.ref x16, .int 0, .int w17, .int (nI w18.length)])), (x16, .inl (cB, w19, .inl w20))]) (fz := (([(pl, .inr (14, [.ref ed0, .int (nI (k0 + 1)), .int mo0])), (ed0, .inl (cO, (acap (k0 + 1)), .inr (.inr (.inr (.inr f0)))))] ++ (w21 ++ nz1)) ++ fz)) (wc := [(sb, .inr (13, [.ref x16, .int 0, .int w17, .int (nI w18.length)])), (x16, .inl (cB, w19, .inl w20))]) hD [0, 1] (by decide) rfl
              have hK9 := hK.sub (tys' := [(cB, .byte), (cO, .object "java/lang/Object")]) [0, 1] rfl
              rw [hQ]
              refine W.widen (k := (10 + 3 * (ksR rows).length + 10 * tln rows)) (n := (480 + 10 * (ksR rows).length + 662 * tln rows)) ((by show ((1 + acl x1.length + 3 * i + 10 * tlS ((ksR rows).take i)) + (3 + 10 * tln ((ksR rows).getD i []))) ≤ (10 + 3 * (ksR rows).length + 10 * tln rows); omega)) ((by show ((3 + asl x1.length + 10 * i + 662 * tlS ((ksR rows).take i)) + (10 + 662 * tln ((ksR rows).getD i []))) ≤ (480 + 10 * (ksR rows).length + 662 * tln rows); omega)) ?_
              exact W.aret (v := .null) hx hb hr (Or.inl ⟨_, rfl⟩) (Or.inl rfl) (fun t ht hW => ⟨⟨none, (w17, w18, w19, w20, ([(pl, .inr (14, [.ref ed0, .int (nI (k0 + 1)), .int mo0])), (ed0, .inl (cO, (acap (k0 + 1)), .inr (.inr (.inr (.inr f0)))))] ++ (w21 ++ nz1))), rfl, ⟨hB2, Or.inl ⟨rfl, by rw [hall]; exact opsL_bad (by omega) hob⟩⟩, ⟨x16, by rw [ht]; exact hP9, va_K.moved hW.alike hK9, hD9⟩⟩, hS.F ht⟩) hS.2.2 d_OP_allOf_54
            · refine W.eq (g2 := F0 m 46 ls [.ref yo]) rfl ?_
              refine lv_astore hx hb d_OP_allOf_46 hl (by decide) rfl (fun ls hl => ?_)
              have hl : lv_has ls 5 [(4, .ref yo), (3, .int (nI i)), (2, .ref pl), (0, .ref a), (1, .ref sb)] := hl
              refine lv_aload hx hb d_OP_allOf_48 (lv_at hl 0 rfl) ?_
              refine lv_ifnonnull (tgt := 55) hx hb d_OP_allOf_50 rfl ?_
              have hP := zz_pickP (pre := [(pl, .inr (14, [.ref ed0, .int (nI (k0 + 1)), .int mo0])), (ed0, .inl (cO, (acap (k0 + 1)), .inr (.inr (.inr (.inr f0))))), (sb, .inr (13, [.ref x16, .int 0, .int w17, .int (nI w18.length)])), (x16, .inl (cB, w19, .inl w20))]) (fz := (w21 ++ (nz1 ++ fz))) (wc := [(sb, .inr (13, [.ref x16, .int 0, .int w17, .int (nI w18.length)])), (x16, .inl (cB, w19, .inl w20)), (pl, .inr (14, [.ref ed0, .int (nI (k0 + 1)), .int mo0])), (ed0, .inl (cO, (acap (k0 + 1)), .inr (.inr (.inr (.inr f0)))))]) hP [2, 3, 0, 1] rfl
              have hD := zz_pickD (pre := [(pl, .inr (14, [.ref ed0, .int (nI (k0 + 1)), .int mo0])), (ed0, .inl (cO, (acap (k0 + 1)), .inr (.inr (.inr (.inr f0))))), (sb, .inr (13, [.ref x16, .int 0, .int w17, .int (nI w18.length)])), (x16, .inl (cB, w19, .inl w20))]) (fz := (w21 ++ (nz1 ++ fz))) (wc := [(sb, .inr (13, [.ref x16, .int 0, .int w17, .int (nI w18.length)])), (x16, .inl (cB, w19, .inl w20)), (pl, .inr (14, [.ref ed0, .int (nI (k0 + 1)), .int mo0])), (ed0, .inl (cO, (acap (k0 + 1)), .inr (.inr (.inr (.inr f0)))))]) hD [2, 3, 0, 1] (by decide) rfl
              have hP : va_P (dC, dI) vwCl ([(sb, .inr (13, [.ref x16, .int 0, .int w17, .int (nI w18.length)])), (x16, .inl (cB, w19, .inl w20))] ++ ([(pl, .inr (14, [.ref ed0, .int (nI (k0 + 1)), .int mo0])), (ed0, .inl (cO, (acap (k0 + 1)), .inr (.inr (.inr (.inr f0)))))] ++ (w21 ++ (nz1 ++ fz)))) _ := hP
              have hD : va_D A ([(sb, .inr (13, [.ref x16, .int 0, .int w17, .int (nI w18.length)])), (x16, .inl (cB, w19, .inl w20))] ++ ([(pl, .inr (14, [.ref ed0, .int (nI (k0 + 1)), .int mo0])), (ed0, .inl (cO, (acap (k0 + 1)), .inr (.inr (.inr (.inr f0)))))] ++ (w21 ++ (nz1 ++ fz)))) := hD
              have hP := zz_permP (pre := [(sb, .inr (13, [.ref x16, .int 0, .int w17, .int (nI w18.length)])), (x16, .inl (cB, w19, .inl w20))]) (t1 := ([(pl, .inr (14, [.ref ed0, .int (nI (k0 + 1)), .int mo0])), (ed0, .inl (cO, (acap (k0 + 1)), .inr (.inr (.inr (.inr f0)))))] ++ (w21 ++ (nz1 ++ fz)))) (t2 := ([(pl, .inr (14, [.ref ed0, .int (nI (k0 + 1)), .int mo0])), (ed0, .inl (cO, (acap (k0 + 1)), .inr (.inr (.inr (.inr f0)))))] ++ ((w21 ++ nz1) ++ fz))) hP (List.Perm.append_left _ (pm2 _ _ _))
              have hD := zz_permD (pre := [(sb, .inr (13, [.ref x16, .int 0, .int w17, .int (nI w18.length)])), (x16, .inl (cB, w19, .inl w20))]) (t1 := ([(pl, .inr (14, [.ref ed0, .int (nI (k0 + 1)), .int mo0])), (ed0, .inl (cO, (acap (k0 + 1)), .inr (.inr (.inr (.inr f0)))))] ++ (w21 ++ (nz1 ++ fz)))) (t2 := ([(pl, .inr (14, [.ref ed0, .int (nI (k0 + 1)), .int mo0])), (ed0, .inl (cO, (acap (k0 + 1)), .inr (.inr (.inr (.inr f0)))))] ++ ((w21 ++ nz1) ++ fz))) hD (List.Perm.append_left _ (pm2 _ _ _))
              have hac := ac_mono x1.length (by omega)
              have hac1 := ac_8 (x1.length + 1) (by omega)
              have hgA : ∀ q ∈ (w21 ++ (nz1 ++ fz)), q ∈ ((w21 ++ nz1) ++ fz) := fun q hq => (pm2 _ _ _ : ((w21 ++ nz1) ++ fz).Perm (w21 ++ (nz1 ++ fz))).mem_iff.mpr hq
              have hgN : ∀ q ∈ (nz1 ++ fz), q ∈ ((w21 ++ nz1) ++ fz) := fun q hq => hgA q (List.mem_append_right _ hq)
              have hoz2 : OPz cB cO em aK ((w21 ++ nz1) ++ fz) ob yo := hoz.mono hgA
              refine lv_aload_n hx hb d_OP_allOf_55 rfl (lv_at hl 2 rfl) ?_
              refine lv_aload hx hb d_OP_allOf_56 (lv_at hl 0 rfl) ?_
              have hPc := zz_pickP (pre := [(sb, .inr (13, [.ref x16, .int 0, .int w17, .int (nI w18.length)])), (x16, .inl (cB, w19, .inl w20))]) (fz := ([(pl, .inr (14, [.ref ed0, .int (nI (k0 + 1)), .int mo0])), (ed0, .inl (cO, (acap (k0 + 1)), .inr (.inr (.inr (.inr f0)))))] ++ ((w21 ++ nz1) ++ fz))) (wc := []) hP [] rfl
              have hDc := zz_pickD (pre := [(sb, .inr (13, [.ref x16, .int 0, .int w17, .int (nI w18.length)])), (x16, .inl (cB, w19, .inl w20))]) (fz := ([(pl, .inr (14, [.ref ed0, .int (nI (k0 + 1)), .int mo0])), (ed0, .inl (cO, (acap (k0 + 1)), .inr (.inr (.inr (.inr f0)))))] ++ ((w21 ++ nz1) ++ fz))) (wc := []) hD [] (by decide) rfl
              have hFc := zz_free (pre := [(sb, .inr (13, [.ref x16, .int 0, .int w17, .int (nI w18.length)])), (x16, .inl (cB, w19, .inl w20))]) (fz := ([(pl, .inr (14, [.ref ed0, .int (nI (k0 + 1)), .int mo0])), (ed0, .inl (cO, (acap (k0 + 1)), .inr (.inr (.inr (.inr f0)))))] ++ ((w21 ++ nz1) ++ fz))) (wc := []) hD hS hA [] rfl
              have hKc := hK.sub (tys' := [(cO, .object "java/lang/Object")]) [1] rfl
              refine va_calli (va_runV (As := [.ref yo]) (rest := []) ⟨hx, hb, hml, hown, htb⟩ (k_AL_add l dC dI _ pl x1 cO 4 yo em aK aV ([(pl, .inr (14, [.ref ed0, .int (nI (k0 + 1)), .int mo0])), (ed0, .inl (cO, (acap (k0 + 1)), .inr (.inr (.inr (.inr f0)))))]) ((w21 ++ nz1) ++ fz) Oci4 hiL (of_getD (z := 0) (fun i hi => ((hi6 i hi).mono hgN).vin)) hoz2.vin (by omega)) (cwV 1 htb (g_V (fun _ h => h) m_525 m_748 m_523 m_524 m_8) rfl rfl rfl (by decide +kernel) ⟨Nat.le_of_ble_eq_true rfl, Nat.le_of_ble_eq_true rfl⟩) ⟨fun a U g mk q => by obtain ⟨q0, q1, qP, qK, qD, z0⟩ := q; exact ⟨q0, q1, qP, va_K.moved (u := U) (U := U.calling g mk a) (Vm.Alike.refl U.vm) qK, qD, EX.same (U := U) (U' := U.calling g mk a) rfl z0⟩, (hiL.frozen).recv hK hP (fun q hq => List.mem_append_right _ (List.mem_append_left _ hq)), fun U hU hW => ⟨rfl, by rw [hU], by rw [hU]; exact hPc, va_K.moved hW.alike hKc, hDc.weaken (fun _ _ _ _ => trivial), by rw [hU]; exact EX.warm hW ((hE.kept (fun a h1 h2 => hS.2.1 a h1 h2)).narrow hFc)⟩⟩ rfl rfl hl.1 rfl (lv_room (Nat.le_of_ble_eq_true rfl)) d_OP_allOf_58 ⟨(by show (((1 + acl x1.length + 3 * i + 10 * tlS ((ksR rows).take i)) + (3 + 10 * tln ((ksR rows).getD i []))) + (acl (x1.length + 1) - acl x1.length)) ≤ (10 + 3 * (ksR rows).length + 10 * tln rows); omega), (by show (((3 + asl x1.length + 10 * i + 662 * tlS ((ksR rows).take i)) + (10 + 662 * tln ((ksR rows).getD i []))) + (asl (x1.length + 1) - asl x1.length)) ≤ (480 + 10 * (ksR rows).length + 662 * tln rows); omega)⟩) hS (fun q _ h => hFc q h) hFc (fun r23 u22 t H1 locs ht hvm hw24 hB hz1 hk1 hS => ?_)
              obtain ⟨hP1, hK1, hD1⟩ := hB
              rw [ht] at hP1
              have hK1 := va_K.moved hvm.symm hK1
              have hw24 : ALc cO em pl (x1 ++ [yo]) u22 := hw24
              obtain ⟨hP, hD⟩ := zz_join (pre := [(sb, .inr (13, [.ref x16, .int 0, .int w17, .int (nI w18.length)])), (x16, .inl (cB, w19, .inl w20))]) (fz := ([(pl, .inr (14, [.ref ed0, .int (nI (k0 + 1)), .int mo0])), (ed0, .inl (cO, (acap (k0 + 1)), .inr (.inr (.inr (.inr f0)))))] ++ ((w21 ++ nz1) ++ fz))) (wc := []) (wr := [(sb, .inr (13, [.ref x16, .int 0, .int w17, .int (nI w18.length)])), (x16, .inl (cB, w19, .inl w20))]) (w1 := ([] ++ (u22 ++ ((w21 ++ nz1) ++ fz)))) hP hD [] [0, 1] rfl rfl (by decide) (by decide) hk1 hFc hP1 hD1
              have hK := (hK.sub (tys' := [(cB, .byte)]) [0] rfl).app hK1
              generalize H1 = H at hP hS ⊢
              have hP : va_P (dC, dI) vwCl ([(sb, .inr (13, [.ref x16, .int 0, .int w17, .int (nI w18.length)])), (x16, .inl (cB, w19, .inl w20))] ++ (u22 ++ ((w21 ++ nz1) ++ fz))) H := hP
              have hD : va_D A ([(sb, .inr (13, [.ref x16, .int 0, .int w17, .int (nI w18.length)])), (x16, .inl (cB, w19, .inl w20))] ++ (u22 ++ ((w21 ++ nz1) ++ fz))) := hD
              have hK : va_K (dC, dI) vwCl [(cB, .byte), (cO, .object "java/lang/Object")] s := hK
              have hxl : (x1 ++ [yo]).length = x1.length + 1 := by simp
              have hax : acl (x1 ++ [yo]).length = acl (x1.length + 1) := by rw [hxl]
              have hay : asl (x1 ++ [yo]).length = asl (x1.length + 1) := by rw [hxl]
              have hol : (o1 ++ [ob]).length = (x1 ++ [yo]).length := by simp; omega
              refine lv_pop hx hb d_OP_allOf_61 rfl ?_
              refine lv_iinc (k := 1) (v := ((nI i) + Int32.ofInt 1)) hx hb d_OP_allOf_62 hl rfl rfl (by decide) rfl (fun ls hl => ?_)
              have hl : lv_has ls 5 [(3, .int ((nI i) + Int32.ofInt 1)), (4, .ref yo), (2, .ref pl), (0, .ref a), (1, .ref sb)] := hl
              rw [show nI i + Int32.ofInt 1 = nI (i + 1) from nI_1 _] at hl
              refine lv_goto (tgt := 20) hx hb d_OP_allOf_65 rfl ?_
              refine W.widen (k := (1 + acl (x1 ++ [yo]).length + 3 * (i + 1) + 10 * tlS ((ksR rows).take (i + 1)))) (n := (3 + asl (x1 ++ [yo]).length + 10 * (i + 1) + 662 * tlS ((ksR rows).take (i + 1)))) (by omega) (by omega) ?_
              exact ih (xs.length - (i + 1)) (by omega) (i + 1) u22 (w21 ++ nz1) (x1 ++ [yo]) (o1 ++ [ob]) x16 w17 w19 w20 w18 H locs ls rfl (by omega) (by omega) (hw24) (hol) (by rw [take_step [] (by omega)]; exact opsL_snoc hi5 hos) (ol_app hi3 (fun i hi => (hi6 i hi).mono hgN) hoz2) (hB2) (lv_sub hl [0, 2, 3, 4] rfl) (zz_pickP (pre := [(sb, .inr (13, [.ref x16, .int 0, .int w17, .int (nI w18.length)])), (x16, .inl (cB, w19, .inl w20))]) (fz := (u22 ++ ((w21 ++ nz1) ++ fz))) (wc := [(sb, .inr (13, [.ref x16, .int 0, .int w17, .int (nI w18.length)])), (x16, .inl (cB, w19, .inl w20))]) hP [0, 1] rfl) (zz_pickD (pre := [(sb, .inr (13, [.ref x16, .int 0, .int w17, .int (nI w18.length)])), (x16, .inl (cB, w19, .inl w20))]) (fz := (u22 ++ ((w21 ++ nz1) ++ fz))) (wc := [(sb, .inr (13, [.ref x16, .int 0, .int w17, .int (nI w18.length)])), (x16, .inl (cB, w19, .inl w20))]) hD [0, 1] (by decide) rfl) hS
    refine W.widen (k := (1 + acl ([] : List Nat).length + 3 * 0 + 10 * tlS ((ksR rows).take 0))) (n := (3 + asl ([] : List Nat).length + 10 * 0 + 662 * tlS ((ksR rows).take 0))) (by omega) (by omega) ?_
    exact hloop _ 0 ([(pl, .inr (14, [.ref em, .int 0, .int 0]))]) ([] : va_W) ([] : List Nat) ([] : List Opn) bv ml cap g tx _ _ ls rfl (Nat.zero_le _) (rfl) (Or.inl ⟨rfl, 0, rfl⟩) (rfl) (rfl) (fun q hq => absurd hq (Nat.not_lt_zero _)) (hB) (lv_sub hl [0, 1, 2, 3] rfl) (zz_pickP (pre := [(sb, .inr (13, [.ref bv, .int 0, .int ml, .int (nI tx.length)])), (bv, .inl (cB, cap, .inl g))]) (fz := ([(pl, .inr (14, [.ref em, .int 0, .int 0]))] ++ fz)) (wc := [(sb, .inr (13, [.ref bv, .int 0, .int ml, .int (nI tx.length)])), (bv, .inl (cB, cap, .inl g))]) hP [0, 1] rfl) (zz_pickD (pre := [(sb, .inr (13, [.ref bv, .int 0, .int ml, .int (nI tx.length)])), (bv, .inl (cB, cap, .inl g))]) (fz := ([(pl, .inr (14, [.ref em, .int 0, .int 0]))] ++ fz)) (wc := [(sb, .inr (13, [.ref bv, .int 0, .int ml, .int (nI tx.length)])), (bv, .inl (cB, cap, .inl g))]) hD [0, 1] (by decide) rfl) hS
  · have h1 : ¬ kk = 5 := fun h => h1 ((hhd.kind.2.1).mpr h)
    refine lv_null hx hb d_OP_allOf_8 ?_
    have hP9 := zz_pickP (pre := [(sb, .inr (13, [.ref bv, .int 0, .int ml, .int (nI tx.length)])), (bv, .inl (cB, cap, .inl g))]) (fz := fz) (wc := [(sb, .inr (13, [.ref bv, .int 0, .int ml, .int (nI tx.length)])), (bv, .inl (cB, cap, .inl g))]) hP [0, 1] rfl
    have hD9 := zz_pickD (pre := [(sb, .inr (13, [.ref bv, .int 0, .int ml, .int (nI tx.length)])), (bv, .inl (cB, cap, .inl g))]) (fz := fz) (wc := [(sb, .inr (13, [.ref bv, .int 0, .int ml, .int (nI tx.length)])), (bv, .inl (cB, cap, .inl g))]) hD [0, 1] (by decide) rfl
    have hK9 := hK.sub (tys' := [(cB, .byte), (cO, .object "java/lang/Object")]) [0, 1] rfl
    rw [hQ]
    refine W.widen (k := (10 + 3 * (ksR rows).length + 10 * tln rows)) (n := (480 + 10 * (ksR rows).length + 662 * tln rows)) ((by show 0 ≤ (10 + 3 * (ksR rows).length + 10 * tln rows); omega)) ((by show 0 ≤ (480 + 10 * (ksR rows).length + 662 * tln rows); omega)) ?_
    exact W.aret (v := .null) hx hb hr (Or.inl ⟨_, rfl⟩) (Or.inl rfl) (fun t ht hW => ⟨⟨none, (ml, tx, cap, g, []), rfl, ⟨hB, Or.inl ⟨rfl, by rw [allR, if_neg (fun h => h1 (hhk.symm.trans h))]⟩⟩, ⟨bv, by rw [ht]; exact hP9, va_K.moved hW.alike hK9, hD9⟩⟩, hS.F ht⟩) hS.2.2 d_OP_allOf_9
