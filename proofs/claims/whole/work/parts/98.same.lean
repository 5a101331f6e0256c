/-! two documents that are alike -/
def hdS (a b : List Row) : Bool := match a, b with
  | p :: _, q :: _ => decide (p.1 = q.1) && (decide (p.2.2.1 = q.2.2.1) && decide (p.2.2.2.1 = q.2.2.2.1))
  | _, _ => false
def plK (a b : List Row) (i : Nat) : Option Nat := if hdK a = 6 then nix ((ksN a).getD i []) (ksN b) else some i
def smR : Nat → List Row → List Row → Bool
  | 0, _, _ => false
  | d + 1, a, b => hdS a b && (decide ((ksR a).length = (ksR b).length) && (List.range (ksR a).length).all (fun i => match plK a b i with
    | none => false
    | some t => smR d ((ksR a).getD i []) ((ksR b).getD t [])))
theorem nsum_digs : ∀ n, nsum (digs n) = n := by
  intro n
  induction n using Nat.strongRecOn with
  | ind n ih =>
    rw [digs]
    split
    · next h => simp [nsum]
    · next h =>
      rw [nsum_snoc, ih (n / 10) (by omega)]
      omega
theorem digs_ge : ∀ n, ∀ c ∈ digs n, 48 ≤ c := by
  intro n
  induction n using Nat.strongRecOn with
  | ind n ih =>
    intro c hc
    rw [digs] at hc
    split at hc
    · rw [List.mem_singleton.mp hc]; omega
    · rcases List.mem_append.mp hc with h | h
      · exact ih (n / 10) (by omega) c h
      · rw [List.mem_singleton.mp h]; omega
theorem digs_ne (n : Nat) : digs n ≠ [] := by
  rw [digs]
  split <;> simp
theorem dec_inj {a b : Int} (h : dec a = dec b) : a = b := by
  have key : ∀ (n m : Nat), ¬ 45 :: digs n = digs m := by
    intro n m e
    have := digs_ge m 45 (by rw [← e]; exact List.mem_cons_self)
    omega
  unfold dec at h
  split at h
  · split at h
    · have h2 := congrArg nsum (List.cons.inj h).2
      rw [nsum_digs, nsum_digs] at h2
      omega
    · exact absurd h (key _ _)
  · split at h
    · exact absurd h.symm (key _ _)
    · have h2 := congrArg nsum h
      rw [nsum_digs, nsum_digs] at h2
      omega
theorem words_ne : ∀ i, i ≤ 2 → ∀ j, j ≤ 2 → LTx.getD (i + 2) [] = LTx.getD (j + 2) [] → i = j := by decide +kernel
theorem hd_same {kd kd2 : Int32} {tt tt2 : List Nat} {nu nu2 : Int64} {k k2 : Nat} {num num2 : Int} {rt rt2 : List Nat} (h : HDr kd tt nu k num rt) (h2 : HDr kd2 tt2 nu2 k2 num2 rt2) : (kd = kd2 ∧ tt = tt2) ↔ (k = k2 ∧ num = num2 ∧ rt = rt2) := by
  constructor
  · rintro ⟨rfl, rfl⟩
    rcases h with ⟨e1, a1, a2, a3, a4, _⟩ | ⟨e1, a1, a2, a3, _⟩ | ⟨e1, a1, a2, a3, _⟩ | ⟨e1, a1, a2, a3, a4, _⟩ | ⟨e1, a1, a2, a3, a4, _⟩ <;> rcases h2 with ⟨f1, b1, b2, b3, b4, _⟩ | ⟨f1, b1, b2, b3, _⟩ | ⟨f1, b1, b2, b3, _⟩ | ⟨f1, b1, b2, b3, b4, _⟩ | ⟨f1, b1, b2, b3, b4, _⟩ <;> first | (exact absurd (e1.symm.trans f1) (by decide)) | skip
    · exact ⟨words_ne k a1 k2 b1 (a2.symm.trans b2), a3.trans b3.symm, a4.trans b4.symm⟩
    · exact ⟨a1.trans b1.symm, dec_inj (a2.symm.trans b2), a3.trans b3.symm⟩
    · exact ⟨a1.trans b1.symm, a3.trans b3.symm, a2.symm.trans b2⟩
    · exact ⟨a1.trans b1.symm, a3.trans b3.symm, a4.trans b4.symm⟩
    · exact ⟨a1.trans b1.symm, a3.trans b3.symm, a4.trans b4.symm⟩
  · rintro ⟨rfl, rfl, rfl⟩
    rcases h with ⟨e1, a1, a2, a3, a4, _⟩ | ⟨e1, a1, a2, a3, _⟩ | ⟨e1, a1, a2, a3, _⟩ | ⟨e1, a1, a2, a3, a4, _⟩ | ⟨e1, a1, a2, a3, a4, _⟩ <;> rcases h2 with ⟨f1, b1, b2, b3, b4, _⟩ | ⟨f1, b1, b2, b3, _⟩ | ⟨f1, b1, b2, b3, _⟩ | ⟨f1, b1, b2, b3, b4, _⟩ | ⟨f1, b1, b2, b3, b4, _⟩ <;> first | omega | skip
    all_goals first | exact ⟨e1.trans f1.symm, a2.trans b2.symm⟩ | exact ⟨e1.trans f1.symm, a2.symm ▸ b2.symm ▸ rfl⟩
theorem smR_no {d : Nat} {a b : List Row} (h : hdS a b = false ∨ ¬ (ksR a).length = (ksR b).length) : smR (d + 1) a b = false := by
  rw [smR]
  rcases h with h | h
  · rw [h]; rfl
  · rw [decide_eq_false h]; simp
theorem smR_bad {d : Nat} {a b : List Row} {i : Nat} (hi : i < (ksR a).length) (h : (match plK a b i with | none => false | some t => smR d ((ksR a).getD i []) ((ksR b).getD t [])) = false) : smR (d + 1) a b = false := by
  rw [smR]
  have : (List.range (ksR a).length).all (fun i => match plK a b i with
    | none => false
    | some t => smR d ((ksR a).getD i []) ((ksR b).getD t [])) = false := by
    rw [List.all_eq_false]
    exact ⟨i, List.mem_range.mpr hi, by rw [h]; decide⟩
  rw [this]; simp
theorem smR_ok {d : Nat} {a b : List Row} (h1 : hdS a b = true) (h2 : (ksR a).length = (ksR b).length) (h : ∀ i, i < (ksR a).length → (match plK a b i with | none => false | some t => smR d ((ksR a).getD i []) ((ksR b).getD t [])) = true) : smR (d + 1) a b = true := by
  rw [smR, h1, decide_eq_true h2]
  simp only [Bool.true_and]
  rw [List.all_eq_true]
  intro i hi
  exact h i (List.mem_range.mp hi)
def C_VA_same (d : Nat) : Prop := ∀ (l : Launch) (dC : Nat → ClassId) (dI : Nat → Nat → Nat) (sz : Nat) (a : Nat) (b : Nat) (na : List Nat) (nb : List Nat) (ra : List Row) (rb : List Row) (cB : ClassId) (cO : ClassId) (em : Nat) (aK : Nat → Nat) (aV : Nat → Nat) (fz : va_W) (hva : VT cB cO em aK d fz a na ra) (hvb : VT cB cO em aK d fz b nb rb) (hd9 : d ≤ 30), Met l y_VA_same ws_VA_same ({ frames := (10 + 2 * d), cells := 0, slots := 0, locals := (200 + 60 * d) }) (va_Pc [.ref a, .ref b] (fun U => U.heap.size = sz ∧ va_P (dC, dI) vwCl ([] ++ fz) U.heap ∧ va_K (dC, dI) vwCl [(cB, .byte), (cO, .object "java/lang/Object")] U ∧ va_D (fun _ => True) ([] ++ fz) ∧ EX em aK aV (va_A ([] ++ fz) sz) U U.heap)) (va_Qi (fun (r : Int32) (u : Unit) => r = bI (smR d ra rb)) (fun u t => va_P (dC, dI) vwCl ([] ++ fz) t.heap ∧ va_K (dC, dI) vwCl [(cB, .byte), (cO, .object "java/lang/Object")] t ∧ va_D (va_A ([] ++ fz) sz) ([] ++ fz)) (va_A ([] ++ fz) sz)) 0 0 (va_A ([] ++ fz) sz)
set_option maxHeartbeats 1000000 in
set_option maxRecDepth 100000 in
/-- same(a, b) -/
theorem k_VA_same (l : Launch) (dC : Nat → ClassId) (dI : Nat → Nat → Nat) (sz : Nat) (a : Nat) (b : Nat) (d : Nat) (na : List Nat) (nb : List Nat) (ra : List Row) (rb : List Row) (cB : ClassId) (cO : ClassId) (em : Nat) (aK : Nat → Nat) (aV : Nat → Nat) (fz : va_W) (hva : VT cB cO em aK d fz a na ra) (hvb : VT cB cO em aK d fz b nb rb) (hd9 : d ≤ 30) (HR : ∀ d1, d = d1 + 1 → C_VA_same d1) : Met l y_VA_same ws_VA_same ({ frames := (10 + 2 * d), cells := 0, slots := 0, locals := (200 + 60 * d) }) (va_Pc [.ref a, .ref b] (fun U => U.heap.size = sz ∧ va_P (dC, dI) vwCl ([] ++ fz) U.heap ∧ va_K (dC, dI) vwCl [(cB, .byte), (cO, .object "java/lang/Object")] U ∧ va_D (fun _ => True) ([] ++ fz) ∧ EX em aK aV (va_A ([] ++ fz) sz) U U.heap)) (va_Qi (fun (r : Int32) (u : Unit) => r = bI (smR d ra rb)) (fun u t => va_P (dC, dI) vwCl ([] ++ fz) t.heap ∧ va_K (dC, dI) vwCl [(cB, .byte), (cO, .object "java/lang/Object")] t ∧ va_D (va_A ([] ++ fz) sz) ([] ++ fz)) (va_A ([] ++ fz) sz)) 0 0 (va_A ([] ++ fz) sz) := by
  refine Met.ofW (cc := c_VA_same) (maxL := 5) (ret := (some .boolean)) (by decide) rfl ?_
  intro p e s m args below meth c s₁ B hml hv
  obtain ⟨hargs, hsz, hP, hK, hD0, hE⟩ := hv
  rw [show entryFrame m args 5 = entryFrame m ([.ref a, .ref b]).toArray 5 by rw [hargs]]
  have hx := B.exec
  have hb := B.bytes
  have hr := B.returns
  have hts := atoms_spec (ws := ws_VA_same) B.pre
  have htb := fun w (h : w ∈ TBL) => hts w (List.mem_cons_of_mem _ h)
  have hown : s.vm.findClass R_VA = some m.cls := findClass_of_methodNamed B.named
  have hlocks := B.notSynchronized
  subst hsz
  have hD := hD0.self (sz := s.heap.size)
  generalize hAe : va_A ([] ++ fz) s.heap.size = A at hD hE ⊢
  have hA : ∀ q : Nat, s.heap.size ≤ q → A q := fun q h => by rw [← hAe]; exact Or.inr h
  have hS : va_S A s.heap s.heap [] := va_S.rf
  have hP : va_P (dC, dI) vwCl ([] ++ fz) s.heap := hP
  have hl := lv_entry ([.ref a, .ref b]) (n := 5) (Nat.le_of_ble_eq_true rfl)
  rw [lg_entry_eq]
  generalize (lg_sl ([.ref a, .ref b]) ++ List.replicate (5 - (lg_sl ([.ref a, .ref b])).length) Slot.unset).toArray = ls at hl ⊢
  have hl : lv_has ls 5 [(0, .ref a), (1, .ref b)] := hl
  refine zz_nQ (fun Q hQ => ?_)
  obtain ⟨d1, hd1⟩ := hva.succ
  have hva1 : VT cB cO em aK (d1 + 1) fz a na ra := hd1 ▸ hva
  have hvb1 : VT cB cO em aK (d1 + 1) fz b nb rb := hd1 ▸ hvb
  have hsm : smR d ra rb = smR (d1 + 1) ra rb := by rw [hd1]
  obtain ⟨kd1, tx1, nu1, nm1, pa1, dp1, cn1, tt1, kk1, num1, rt1, xs1, ns1, hc1, htx1, hnm1, hal1, hhd1, hnl1, hrl1, hkf1, hvl1, hhk1, hns1, hdp1, hcn1, hrw1, h1601⟩ := (id hva1 : VT cB cO em aK (d1 + 1) fz a na ra).opn
  obtain ⟨kd2, tx2, nu2, nm2, pa2, dp2, cn2, tt2, kk2, num2, rt2, xs2, ns2, hc2, htx2, hnm2, hal2, hhd2, hnl2, hrl2, hkf2, hvl2, hhk2, hns2, hdp2, hcn2, hrw2, h1602⟩ := (id hvb1 : VT cB cO em aK (d1 + 1) fz b nb rb).opn
  have hS0 := hd_same hhd1 hhd2
  have hdQ : hdS ra rb = decide (kk1 = kk2 ∧ num1 = num2 ∧ rt1 = rt2) := by rw [hrw1, hrw2]; simp [hdS]
  refine lv_aload_n hx hb d_VA_same_0 rfl (lv_at hl 0 rfl) ?_
  obtain ⟨qz1, hz1⟩ := List.getElem?_of_mem (List.mem_append_right [] hc1)
  refine va_get (D := (dC, dI)) (ci := 3) (v := .int kd1) (C := R_VA) (T := T_VA) (N := 7) hx hb htb in_VA hown hK hP qz1 hz1 rfl 0 (by decide) (htb _ m_378) (fun _ h9 => h9) rfl d_VA_same_1 ?_
  refine lv_aload_n hx hb d_VA_same_4 rfl (lv_at hl 1 rfl) ?_
  obtain ⟨qz2, hz2⟩ := List.getElem?_of_mem (List.mem_append_right [] hc2)
  refine va_get (D := (dC, dI)) (ci := 3) (v := .int kd2) (C := R_VA) (T := T_VA) (N := 7) hx hb htb in_VA hown hK hP qz2 hz2 rfl 0 (by decide) (htb _ m_378) (fun _ h9 => h9) rfl d_VA_same_5 ?_
  refine lv_icmp_ne (tgt := 42) hx hb d_VA_same_8 rfl (fun h1 => ?_) (fun h1 => ?_)
  · refine lv_iconst (v := 0) hx hb d_VA_same_42 (by decide) ?_
    have hP9 := zz_pickP (pre := []) (fz := fz) (wc := []) hP [] rfl
    have hD9 := zz_pickD (pre := []) (fz := fz) (wc := []) hD [] (by decide) rfl
    have hK9 := hK.sub (tys' := [(cB, .byte), (cO, .object "java/lang/Object")]) [0, 1] rfl
    rw [hQ]
    refine W.widen (k := 0) (n := 0) (Nat.le_of_ble_eq_true rfl) (Nat.le_of_ble_eq_true rfl) ?_
    exact W.zret (v := 0) hx hb hr (by decide) (fun t ht hW => ⟨⟨0, (), rfl, by rw [hsm, smR_no (Or.inl (by rw [hdQ]; exact decide_eq_false (fun h => h1 (hS0.mpr h).1)))]; rfl, ⟨by rw [ht]; exact hP9, va_K.moved hW.alike hK9, hD9⟩⟩, hS.F ht⟩) hS.2.2 d_VA_same_43
  · refine lv_aload_n hx hb d_VA_same_11 rfl (lv_at hl 0 rfl) ?_
    obtain ⟨qz3, hz3⟩ := List.getElem?_of_mem (List.mem_append_right [] hc1)
    refine va_get (D := (dC, dI)) (ci := 3) (v := .ref tx1) (C := R_VA) (T := T_VA) (N := 7) hx hb htb in_VA hown hK hP qz3 hz3 rfl 1 (by decide) (htb _ m_384) (fun _ h9 => h9) rfl d_VA_same_12 ?_
    refine lv_aload_n hx hb d_VA_same_15 rfl (lv_at hl 1 rfl) ?_
    obtain ⟨qz4, hz4⟩ := List.getElem?_of_mem (List.mem_append_right [] hc2)
    refine va_get (D := (dC, dI)) (ci := 3) (v := .ref tx2) (C := R_VA) (T := T_VA) (N := 7) hx hb htb in_VA hown hK hP qz4 hz4 rfl 1 (by decide) (htb _ m_384) (fun _ h9 => h9) rfl d_VA_same_16 ?_
    obtain ⟨v_a, hSV_a⟩ := htx1.sv htb hE (fun q h1 h2 => hS.2.1 q h1 h2) hK hP (fun q hq => List.mem_append_right _ hq) 0 rfl
    obtain ⟨v_b, hSV_b⟩ := htx2.sv htb hE (fun q h1 h2 => hS.2.1 q h1 h2) hK hP (fun q hq => List.mem_append_right _ hq) 0 rfl
    have hPc : va_P (dC, dI) vwCl [] _ := hP.sub (ws' := []) [] rfl
    have hKc := hK.sub (tys' := []) [] rfl
    refine vp_callSi (W.runV (As := [.ref tx2]) (rest := []) ⟨hx, hb, hml, hown, htb⟩ (q_ST_equals l dC dI tx1 tx2 v_a v_b tt1 tt2 em aK aV A ) (cwV 1 htb (g_V (fun _ h => h) m_510 m_598 m_508 m_509 m_4) rfl rfl rfl (by decide +kernel) ⟨(by show 2 ≤ (10 + 2 * d); omega), (by show 44 ≤ (200 + 60 * d); omega)⟩) ⟨fun a U g mk q => by obtain ⟨q0, qP, qK, z0, z1, z2⟩ := q; exact ⟨q0, qP, va_K.moved (u := U) (U := U.calling g mk a) (Vm.Alike.refl U.vm) qK, EX.same (U := U) (U' := U.calling g mk a) rfl z0, SV.moved (Vm.Alike.refl U.vm) z1, SV.moved (Vm.Alike.refl U.vm) z2⟩, hSV_a.recv, fun U hU hW => ⟨rfl, by rw [hU]; exact hPc, va_K.moved hW.alike hKc, by rw [hU]; exact EX.warm hW (hE.kept (fun a h1 h2 => hS.2.1 a h1 h2)), by rw [hU]; exact SV.moved hW.alike hSV_a, by rw [hU]; exact SV.moved hW.alike hSV_b⟩⟩ rfl rfl hl.1 rfl (lv_room (Nat.le_of_ble_eq_true rfl)) d_VA_same_19 ⟨Nat.le_of_ble_eq_true rfl, Nat.le_of_ble_eq_true rfl⟩) (fun r5 hw6 => ?_)
    have hw6 : (r5 = 1 ∧ tt1 = tt2) ∨ (r5 = 0 ∧ tt1 ≠ tt2) := hw6
    refine lv_if_eq (tgt := 42) hx hb d_VA_same_22 rfl (fun h2 => ?_) (fun h2 => ?_)
    · have hne : tt1 ≠ tt2 := by rcases hw6 with ⟨h, _⟩ | ⟨_, h⟩; exact absurd (h.symm.trans h2) (by decide); exact h
      refine lv_iconst (v := 0) hx hb d_VA_same_42 (by decide) ?_
      have hP9 := zz_pickP (pre := []) (fz := fz) (wc := []) hP [] rfl
      have hD9 := zz_pickD (pre := []) (fz := fz) (wc := []) hD [] (by decide) rfl
      have hK9 := hK.sub (tys' := [(cB, .byte), (cO, .object "java/lang/Object")]) [0, 1] rfl
      rw [hQ]
      refine W.widen (k := 0) (n := 0) (Nat.le_of_ble_eq_true rfl) (Nat.le_of_ble_eq_true rfl) ?_
      exact W.zret (v := 0) hx hb hr (by decide) (fun t ht hW => ⟨⟨0, (), rfl, by rw [hsm, smR_no (Or.inl (by rw [hdQ]; exact decide_eq_false (fun h => hne (hS0.mpr h).2)))]; rfl, ⟨by rw [ht]; exact hP9, va_K.moved hW.alike hK9, hD9⟩⟩, hS.F ht⟩) hS.2.2 d_VA_same_43
    · have heq : tt1 = tt2 := by rcases hw6 with ⟨_, h⟩ | ⟨h, _⟩; exact h; exact absurd h h2
      have hh := hS0.mp ⟨h1, heq⟩
      have hdT : hdS ra rb = true := by rw [hdQ]; exact decide_eq_true hh
      refine lv_aload_n hx hb d_VA_same_25 rfl (lv_at hl 0 rfl) ?_
      obtain ⟨qz7, hz7⟩ := List.getElem?_of_mem (List.mem_append_right [] hc1)
      refine va_get (D := (dC, dI)) (ci := 3) (v := .ref pa1) (C := R_VA) (T := T_VA) (N := 7) hx hb htb in_VA hown hK hP qz7 hz7 rfl 4 (by decide) (htb _ m_393) (fun _ h9 => h9) rfl d_VA_same_26 ?_
      have hPc : va_P (dC, dI) vwCl ([] ++ fz) _ := zz_tlP (pre := []) (tl := fz) hP
      have hKc := hK.sub (tys' := []) [] rfl
      refine vp_callSi (W.runV (As := []) (rest := []) ⟨hx, hb, hml, hown, htb⟩ (z_AL_size l dC dI pa1 xs1 cO em fz hal1) (cwV 0 htb (g_V (fun _ h => h) m_486 m_483 m_484 m_485 m_8) rfl rfl rfl (by decide +kernel) ⟨(by show 1 ≤ (10 + 2 * d); omega), (by show 20 ≤ (200 + 60 * d); omega)⟩) ⟨fun a U g mk q => by obtain ⟨q0, qP, qK⟩ := q; exact ⟨q0, qP, va_K.moved (u := U) (U := U.calling g mk a) (Vm.Alike.refl U.vm) qK⟩, (hal1).recv hK hP (fun q hq => List.mem_append_right _ hq), fun U hU hW => ⟨rfl, by rw [hU]; exact hPc, va_K.moved hW.alike hKc⟩⟩ rfl rfl hl.1 rfl (lv_room (Nat.le_of_ble_eq_true rfl)) d_VA_same_29 ⟨Nat.le_of_ble_eq_true rfl, Nat.le_of_ble_eq_true rfl⟩) (fun r8 hw9 => ?_)
      have hw9 : r8 = nI xs1.length := hw9
      obtain rfl := hw9
      refine lv_aload_n hx hb d_VA_same_32 rfl (lv_at hl 1 rfl) ?_
      obtain ⟨qz10, hz10⟩ := List.getElem?_of_mem (List.mem_append_right [] hc2)
      refine va_get (D := (dC, dI)) (ci := 3) (v := .ref pa2) (C := R_VA) (T := T_VA) (N := 7) hx hb htb in_VA hown hK hP qz10 hz10 rfl 4 (by decide) (htb _ m_393) (fun _ h9 => h9) rfl d_VA_same_33 ?_
      have hPc : va_P (dC, dI) vwCl ([] ++ fz) _ := zz_tlP (pre := []) (tl := fz) hP
      have hKc := hK.sub (tys' := []) [] rfl
      refine vp_callSi (W.runV (As := []) (rest := [.int (nI xs1.length)]) ⟨hx, hb, hml, hown, htb⟩ (z_AL_size l dC dI pa2 xs2 cO em fz hal2) (cwV 0 htb (g_V (fun _ h => h) m_486 m_483 m_484 m_485 m_8) rfl rfl rfl (by decide +kernel) ⟨(by show 1 ≤ (10 + 2 * d); omega), (by show 20 ≤ (200 + 60 * d); omega)⟩) ⟨fun a U g mk q => by obtain ⟨q0, qP, qK⟩ := q; exact ⟨q0, qP, va_K.moved (u := U) (U := U.calling g mk a) (Vm.Alike.refl U.vm) qK⟩, (hal2).recv hK hP (fun q hq => List.mem_append_right _ hq), fun U hU hW => ⟨rfl, by rw [hU]; exact hPc, va_K.moved hW.alike hKc⟩⟩ rfl rfl hl.1 rfl (lv_room (Nat.le_of_ble_eq_true rfl)) d_VA_same_36 ⟨Nat.le_of_ble_eq_true rfl, Nat.le_of_ble_eq_true rfl⟩) (fun r11 hw12 => ?_)
      have hw12 : r11 = nI xs2.length := hw12
      obtain rfl := hw12
      refine lv_icmp_eq (tgt := 44) hx hb d_VA_same_39 rfl (fun h3 => ?_) (fun h3 => ?_)
      · have h3 : xs1.length = xs2.length := (nI_eq (by omega) (by omega)).mp h3
        refine lv_iconst (v := 0) hx hb d_VA_same_44 (by decide) ?_
        refine lv_istore_n hx hb d_VA_same_45 rfl hl (by decide) rfl (fun ls hl => ?_)
        have hl : lv_has ls 5 [(2, .int 0), (0, .ref a), (1, .ref b)] := hl
        have hloop : ∀ (k9 : Nat) (i : Nat) (H : Heap) (locs : List Loc) (ls : Array Slot), xs1.length - i = k9 → (i ≤ xs1.length) → (∀ q, q < i → (match plK ra rb q with | none => false | some t => smR d1 ((ksR ra).getD q []) ((ksR rb).getD t [])) = true) → lv_has ls 5 [(2, .int (nI i)), (0, .ref a), (1, .ref b)] → va_P (dC, dI) vwCl ([] ++ fz) H → va_D A ([] ++ fz) → va_S A s.heap H locs → W p l e (headSpec ws_VA_same ({ frames := (10 + 2 * d), cells := 0, slots := 0, locals := (200 + 60 * d) })).room s m args below meth c H locs 0 0 Q (F0 m 46 ls []) := by
          intro k9
          induction k9 using Nat.strongRecOn with
          | ind k9 ih =>
            intro i H locs ls hk9 hi1 hi2 hl hP hD hS
            refine lv_iload_n hx hb d_VA_same_46 rfl (lv_at hl 0 rfl) ?_
            refine lv_aload_n hx hb d_VA_same_47 rfl (lv_at hl 1 rfl) ?_
            obtain ⟨qz13, hz13⟩ := List.getElem?_of_mem (List.mem_append_right [] hc1)
            refine va_get (D := (dC, dI)) (ci := 3) (v := .ref pa1) (C := R_VA) (T := T_VA) (N := 7) hx hb htb in_VA hown hK hP qz13 hz13 rfl 4 (by decide) (htb _ m_393) (fun _ h9 => h9) rfl d_VA_same_48 ?_
            have hPc : va_P (dC, dI) vwCl ([] ++ fz) _ := zz_tlP (pre := []) (tl := fz) hP
            have hKc := hK.sub (tys' := []) [] rfl
            refine vp_callSi (W.runV (As := []) (rest := [.int (nI i)]) ⟨hx, hb, hml, hown, htb⟩ (z_AL_size l dC dI pa1 xs1 cO em fz hal1) (cwV 0 htb (g_V (fun _ h => h) m_486 m_483 m_484 m_485 m_8) rfl rfl rfl (by decide +kernel) ⟨(by show 1 ≤ (10 + 2 * d); omega), (by show 20 ≤ (200 + 60 * d); omega)⟩) ⟨fun a U g mk q => by obtain ⟨q0, qP, qK⟩ := q; exact ⟨q0, qP, va_K.moved (u := U) (U := U.calling g mk a) (Vm.Alike.refl U.vm) qK⟩, (hal1).recv hK hP (fun q hq => List.mem_append_right _ hq), fun U hU hW => ⟨rfl, by rw [hU]; exact hPc, va_K.moved hW.alike hKc⟩⟩ rfl rfl hl.1 rfl (lv_room (Nat.le_of_ble_eq_true rfl)) d_VA_same_51 ⟨Nat.le_of_ble_eq_true rfl, Nat.le_of_ble_eq_true rfl⟩) (fun r14 hw15 => ?_)
            have hw15 : r14 = nI xs1.length := hw15
            obtain rfl := hw15
            refine lv_icmp_ge (tgt := 123) hx hb d_VA_same_54 rfl (fun h4 => ?_) (fun h4 => ?_)
            · have h4 : xs1.length ≤ i := (nI_leI (by omega) (by omega)).mp h4
              refine lv_iconst (v := 1) hx hb d_VA_same_123 (by decide) ?_
              have hP9 := zz_pickP (pre := []) (fz := fz) (wc := []) hP [] rfl
              have hD9 := zz_pickD (pre := []) (fz := fz) (wc := []) hD [] (by decide) rfl
              have hK9 := hK.sub (tys' := [(cB, .byte), (cO, .object "java/lang/Object")]) [0, 1] rfl
              rw [hQ]
              refine W.widen (k := 0) (n := 0) (Nat.le_of_ble_eq_true rfl) (Nat.le_of_ble_eq_true rfl) ?_
              exact W.zret (v := 1) hx hb hr (by decide) (fun t ht hW => ⟨⟨1, (), rfl, by rw [hsm, smR_ok hdT (by omega) (fun q hq => hi2 q (by omega))]; rfl, ⟨by rw [ht]; exact hP9, va_K.moved hW.alike hK9, hD9⟩⟩, hS.F ht⟩) hS.2.2 d_VA_same_124
            · have h4 : i < xs1.length := Nat.not_le.mp (fun h => h4 ((nI_leI (by omega) (by omega)).mpr h))
              have hvi := hvl1 i h4
              obtain ⟨kd0, tx0, nu0, nm0, pa0, dp0, cn0, hc0, hn0⟩ := hvi.cellN
              refine lv_aload_n hx hb d_VA_same_57 rfl (lv_at hl 1 rfl) ?_
              obtain ⟨qz16, hz16⟩ := List.getElem?_of_mem (List.mem_append_right [] hc1)
              refine va_get (D := (dC, dI)) (ci := 3) (v := .ref pa1) (C := R_VA) (T := T_VA) (N := 7) hx hb htb in_VA hown hK hP qz16 hz16 rfl 4 (by decide) (htb _ m_393) (fun _ h9 => h9) rfl d_VA_same_58 ?_
              refine lv_iload_n hx hb d_VA_same_61 rfl (lv_at hl 0 rfl) ?_
              have hPc : va_P (dC, dI) vwCl ([] ++ fz) _ := zz_tlP (pre := []) (tl := fz) hP
              have hKc := hK.sub (tys' := [(cO, .object "java/lang/Object")]) [1] rfl
              refine va_csq (W.runV (As := [.int (nI i)]) (rest := []) ⟨hx, hb, hml, hown, htb⟩ (z_AL_get l dC dI pa1 xs1 cO em i fz hal1 h4) (cwV 1 htb (g_V (fun _ h => h) m_490 m_487 m_488 m_489 m_8) rfl rfl rfl (by decide +kernel) ⟨(by show 3 ≤ (10 + 2 * d); omega), (by show 64 ≤ (200 + 60 * d); omega)⟩) ⟨fun a U g mk q => by obtain ⟨q0, qP, qK⟩ := q; exact ⟨q0, qP, va_K.moved (u := U) (U := U.calling g mk a) (Vm.Alike.refl U.vm) qK⟩, (hal1).recv hK hP (fun q hq => List.mem_append_right _ hq), fun U hU hW => ⟨rfl, by rw [hU]; exact hPc, va_K.moved hW.alike hKc⟩⟩ rfl rfl hl.1 rfl (lv_room (Nat.le_of_ble_eq_true rfl)) d_VA_same_62 ⟨Nat.le_of_ble_eq_true rfl, Nat.le_of_ble_eq_true rfl⟩) (fun r17 hw18 => ?_)
              have hw18 : r17 = some (xs1.getD i 0) := hw18
              obtain rfl := hw18
              refine W.eq (g2 := F0 m 65 ls [.ref (xs1.getD i 0)]) rfl ?_
              refine va_castY (C := "PatchStore$Value") hx hb hown (htb _ m_499) (nw_14 hE) (zz_recv hK hP (ci := 3) rfl (List.mem_append_right _ hc0)) d_VA_same_65 ?_
              refine lv_astore_n hx hb d_VA_same_68 rfl hl (by decide) rfl (fun ls hl => ?_)
              have hl : lv_has ls 5 [(3, .ref (xs1.getD i 0)), (2, .int (nI i)), (0, .ref a), (1, .ref b)] := hl
              refine lv_aload_n hx hb d_VA_same_69 rfl (lv_at hl 2 rfl) ?_
              obtain ⟨qz19, hz19⟩ := List.getElem?_of_mem (List.mem_append_right [] hc1)
              refine va_get (D := (dC, dI)) (ci := 3) (v := .int kd1) (C := R_VA) (T := T_VA) (N := 7) hx hb htb in_VA hown hK hP qz19 hz19 rfl 0 (by decide) (htb _ m_378) (fun _ h9 => h9) rfl d_VA_same_70 ?_
              refine lv_iconst (v := 4) hx hb d_VA_same_73 (by decide) ?_
              refine lv_icmp_ne (tgt := 88) hx hb d_VA_same_74 rfl (fun h5 => ?_) (fun h5 => ?_)
              · have h5 : ¬ kk1 = 6 := fun h => h5 ((hhd1.kind.1).mpr h)
                have hpk : plK ra rb i = some i := if_neg (fun h => h5 (hhk1.symm.trans h))
                have ht0 : i < xs2.length := by omega
                have hvt := hvl2 i ht0
                obtain ⟨kd9, tx9, nu9, nm9, pa9, dp9, cn9, hc9, hn9⟩ := hvt.cellN
                refine lv_iload_n hx hb d_VA_same_88 rfl (lv_at hl 1 rfl) ?_
                refine lv_istore hx hb d_VA_same_89 hl (by decide) rfl (fun ls hl => ?_)
                have hl : lv_has ls 5 [(4, .int (nI i)), (3, .ref (xs1.getD i 0)), (2, .int (nI i)), (0, .ref a), (1, .ref b)] := hl
                refine lv_iload hx hb d_VA_same_91 (lv_at hl 0 rfl) ?_
                refine lv_if_lt (tgt := 115) hx hb d_VA_same_93 rfl (fun h9 => absurd h9 (nI_pos (by omega))) (fun _ => ?_)
                refine lv_aload_n hx hb d_VA_same_96 rfl (lv_at hl 1 rfl) ?_
                refine lv_aload_n hx hb d_VA_same_97 rfl (lv_at hl 4 rfl) ?_
                obtain ⟨qz20, hz20⟩ := List.getElem?_of_mem (List.mem_append_right [] hc2)
                refine va_get (D := (dC, dI)) (ci := 3) (v := .ref pa2) (C := R_VA) (T := T_VA) (N := 7) hx hb htb in_VA hown hK hP qz20 hz20 rfl 4 (by decide) (htb _ m_393) (fun _ h9 => h9) rfl d_VA_same_98 ?_
                refine lv_iload hx hb d_VA_same_101 (lv_at hl 0 rfl) ?_
                have hPc : va_P (dC, dI) vwCl ([] ++ fz) _ := zz_tlP (pre := []) (tl := fz) hP
                have hKc := hK.sub (tys' := [(cO, .object "java/lang/Object")]) [1] rfl
                refine va_csq (W.runV (As := [.int (nI i)]) (rest := [.ref (xs1.getD i 0)]) ⟨hx, hb, hml, hown, htb⟩ (z_AL_get l dC dI pa2 xs2 cO em i fz hal2 ht0) (cwV 1 htb (g_V (fun _ h => h) m_490 m_487 m_488 m_489 m_8) rfl rfl rfl (by decide +kernel) ⟨(by show 3 ≤ (10 + 2 * d); omega), (by show 64 ≤ (200 + 60 * d); omega)⟩) ⟨fun a U g mk q => by obtain ⟨q0, qP, qK⟩ := q; exact ⟨q0, qP, va_K.moved (u := U) (U := U.calling g mk a) (Vm.Alike.refl U.vm) qK⟩, (hal2).recv hK hP (fun q hq => List.mem_append_right _ hq), fun U hU hW => ⟨rfl, by rw [hU]; exact hPc, va_K.moved hW.alike hKc⟩⟩ rfl rfl hl.1 rfl (lv_room (Nat.le_of_ble_eq_true rfl)) d_VA_same_103 ⟨Nat.le_of_ble_eq_true rfl, Nat.le_of_ble_eq_true rfl⟩) (fun r21 hw22 => ?_)
                have hw22 : r21 = some (xs2.getD i 0) := hw22
                obtain rfl := hw22
                refine W.eq (g2 := F0 m 106 ls [.ref (xs2.getD i 0), .ref (xs1.getD i 0)]) rfl ?_
                refine va_castY (C := "PatchStore$Value") hx hb hown (htb _ m_499) (nw_14 hE) (zz_recv hK hP (ci := 3) rfl (List.mem_append_right _ hc9)) d_VA_same_106 ?_
                have hPc := zz_pickP (pre := []) (fz := fz) (wc := []) hP [] rfl
                have hDc := zz_pickD (pre := []) (fz := fz) (wc := []) hD [] (by decide) rfl
                have hFc := zz_free (pre := []) (fz := fz) (wc := []) hD hS hA [] rfl
                have hKc := hK.sub (tys' := [(cB, .byte), (cO, .object "java/lang/Object")]) [0, 1] rfl
                refine va_calli (va_runS (As := [.ref (xs1.getD i 0), .ref (xs2.getD i 0)]) (rest := []) ⟨hx, hb, hml, hown, htb⟩ ((HR d1 hd1) l dC dI _ (xs1.getD i 0) (xs2.getD i 0) (ns1.getD i []) (ns2.getD i []) ((ksR ra).getD i []) ((ksR rb).getD i []) cB cO em aK aV fz hvi hvt (by omega)) (va_cwS 2 htb (g_S (fun _ h => h) m_836 m_837 m_835 m_18) rfl rfl rfl (by decide +kernel) ⟨(by show ((10 + 2 * d1) + 1) ≤ (10 + 2 * d); omega), (by show (24 + (200 + 60 * d1)) ≤ (200 + 60 * d); omega)⟩) ⟨fun a U g mk q => by obtain ⟨q0, q1, qP, qK, qD, z0⟩ := q; exact ⟨q0, q1, qP, va_K.moved (u := U) (U := U.calling g mk a) (Vm.Alike.refl U.vm) qK, qD, EX.same (U := U) (U' := U.calling g mk a) rfl z0⟩, fun U hU hW => ⟨rfl, by rw [hU], by rw [hU]; exact hPc, va_K.moved hW.alike hKc, hDc.weaken (fun _ _ _ _ => trivial), by rw [hU]; exact EX.warm hW ((hE.kept (fun a h1 h2 => hS.2.1 a h1 h2)).narrow hFc)⟩⟩ rfl rfl hl.1 rfl (lv_room (Nat.le_of_ble_eq_true rfl)) d_VA_same_109 ⟨Nat.le_of_ble_eq_true rfl, Nat.le_of_ble_eq_true rfl⟩) hS (fun q _ h => hFc q h) hFc (fun r24 u23 t H1 locs ht hvm hw25 hB hz1 hk1 hS => ?_)
                obtain ⟨hP1, hK1, hD1⟩ := hB
                rw [ht] at hP1
                have hK1 := va_K.moved hvm.symm hK1
                have hw25 : r24 = bI (smR d1 ((ksR ra).getD i []) ((ksR rb).getD i [])) := hw25
                obtain ⟨hP, hD⟩ := zz_join (pre := []) (fz := fz) (wc := []) (wr := []) (w1 := ([] ++ fz)) hP hD [] [] rfl rfl (by decide) (by decide) hk1 hFc hP1 hD1
                have hK := (hK.sub (tys' := []) [] rfl).app hK1
                generalize H1 = H at hP hS ⊢
                have hP : va_P (dC, dI) vwCl ([] ++ fz) H := hP
                have hD : va_D A ([] ++ fz) := hD
                have hK : va_K (dC, dI) vwCl [(cB, .byte), (cO, .object "java/lang/Object")] s := hK
                refine lv_if_ne (tgt := 117) hx hb d_VA_same_112 rfl (fun h8 => ?_) (fun h8 => ?_)
                · have hb9 : smR d1 ((ksR ra).getD i []) ((ksR rb).getD i []) = true := bI_ne.mp (show ¬ bI _ = 0 from hw25 ▸ h8)
                  refine lv_iinc (k := 2) (v := ((nI i) + Int32.ofInt 1)) hx hb d_VA_same_117 hl rfl rfl (by decide) rfl (fun ls hl => ?_)
                  have hl : lv_has ls 5 [(2, .int ((nI i) + Int32.ofInt 1)), (4, .int (nI i)), (3, .ref (xs1.getD i 0)), (0, .ref a), (1, .ref b)] := hl
                  rw [show nI i + Int32.ofInt 1 = nI (i + 1) from nI_1 _] at hl
                  refine lv_goto (tgt := 46) hx hb d_VA_same_120 rfl ?_
                  exact ih (xs1.length - (i + 1)) (by omega) (i + 1) H locs ls rfl (by omega) (fun q hq => by rcases Nat.lt_succ_iff_lt_or_eq.mp hq with h | rfl; exact hi2 q h; rw [hpk]; exact hb9) (lv_sub hl [0, 3, 4] rfl) (zz_pickP (pre := []) (fz := fz) (wc := []) hP [] rfl) (zz_pickD (pre := []) (fz := fz) (wc := []) hD [] (by decide) rfl) hS
                · have hb9 : smR d1 ((ksR ra).getD i []) ((ksR rb).getD i []) = false := bI_eq.mp (show bI _ = 0 from hw25 ▸ h8)
                  refine lv_iconst (v := 0) hx hb d_VA_same_115 (by decide) ?_
                  have hP9 := zz_pickP (pre := []) (fz := fz) (wc := []) hP [] rfl
                  have hD9 := zz_pickD (pre := []) (fz := fz) (wc := []) hD [] (by decide) rfl
                  have hK9 := hK.sub (tys' := [(cB, .byte), (cO, .object "java/lang/Object")]) [0, 1] rfl
                  rw [hQ]
                  refine W.widen (k := 0) (n := 0) (Nat.le_of_ble_eq_true rfl) (Nat.le_of_ble_eq_true rfl) ?_
                  exact W.zret (v := 0) hx hb hr (by decide) (fun t ht hW => ⟨⟨0, (), rfl, by rw [hsm, smR_bad (i := i) (by omega) (by rw [hpk]; exact hb9)]; rfl, ⟨by rw [ht]; exact hP9, va_K.moved hW.alike hK9, hD9⟩⟩, hS.F ht⟩) hS.2.2 d_VA_same_116
              · have h5 : kk1 = 6 := (hhd1.kind.1).mp h5
                refine lv_aload_n hx hb d_VA_same_77 rfl (lv_at hl 3 rfl) ?_
                refine lv_aload_n hx hb d_VA_same_78 rfl (lv_at hl 0 rfl) ?_
                obtain ⟨qz20, hz20⟩ := List.getElem?_of_mem (List.mem_append_right [] hc0)
                refine va_get (D := (dC, dI)) (ci := 3) (v := .ref nm0) (C := R_VA) (T := T_VA) (N := 7) hx hb htb in_VA hown hK hP qz20 hz20 rfl 3 (by decide) (htb _ m_389) (fun _ h9 => h9) rfl d_VA_same_79 ?_
                have hPc := zz_pickP (pre := []) (fz := fz) (wc := []) hP [] rfl
                have hDc := zz_pickD (pre := []) (fz := fz) (wc := []) hD [] (by decide) rfl
                have hFc := zz_free (pre := []) (fz := fz) (wc := []) hD hS hA [] rfl
                have hKc := hK.sub (tys' := [(cB, .byte), (cO, .object "java/lang/Object")]) [0, 1] rfl
                refine va_calli (va_runV (As := [.ref nm0]) (rest := []) ⟨hx, hb, hml, hown, htb⟩ (k_VA_placeOfMember l dC dI _ b d1 nb rb nm0 (ns1.getD i []) cB cO em aK aV fz hvb1 hn0) (cwV 1 htb (g_V (fun _ h => h) m_597 m_594 m_595 m_596 m_18) rfl rfl rfl (by decide +kernel) ⟨(by show 4 ≤ (10 + 2 * d); omega), (by show 86 ≤ (200 + 60 * d); omega)⟩) ⟨fun a U g mk q => by obtain ⟨q0, q1, qP, qK, qD, z0⟩ := q; exact ⟨q0, q1, qP, va_K.moved (u := U) (U := U.calling g mk a) (Vm.Alike.refl U.vm) qK, qD, EX.same (U := U) (U' := U.calling g mk a) rfl z0⟩, zz_recv hK hP (ci := 3) rfl (List.mem_append_right _ hc2), fun U hU hW => ⟨rfl, by rw [hU], by rw [hU]; exact hPc, va_K.moved hW.alike hKc, hDc.weaken (fun _ _ _ _ => trivial), by rw [hU]; exact EX.warm hW ((hE.kept (fun a h1 h2 => hS.2.1 a h1 h2)).narrow hFc)⟩⟩ rfl rfl hl.1 rfl (lv_room (Nat.le_of_ble_eq_true rfl)) d_VA_same_82 ⟨Nat.le_of_ble_eq_true rfl, Nat.le_of_ble_eq_true rfl⟩) hS (fun q _ h => hFc q h) hFc (fun r22 u21 t H1 locs ht hvm hw23 hB hz1 hk1 hS => ?_)
                obtain ⟨hP1, hK1, hD1⟩ := hB
                rw [ht] at hP1
                have hK1 := va_K.moved hvm.symm hK1
                have hw23 : r22 = oI (mpl rb (ns1.getD i [])) := hw23
                obtain ⟨hP, hD⟩ := zz_join (pre := []) (fz := fz) (wc := []) (wr := []) (w1 := ([] ++ fz)) hP hD [] [] rfl rfl (by decide) (by decide) hk1 hFc hP1 hD1
                have hK := (hK.sub (tys' := []) [] rfl).app hK1
                generalize H1 = H at hP hS ⊢
                have hP : va_P (dC, dI) vwCl ([] ++ fz) H := hP
                have hD : va_D A ([] ++ fz) := hD
                have hK : va_K (dC, dI) vwCl [(cB, .byte), (cO, .object "java/lang/Object")] s := hK
                obtain rfl := hw23
                have hmp : mpl rb (ns1.getD i []) = plK ra rb i := by unfold mpl plK; rw [if_pos (hhk2.trans (hh.1.symm.trans h5)), if_pos (hhk1.trans h5), hns1 h5]
                rw [hmp]
                refine W.eq (g2 := F0 m 85 ls [.int (oI (plK ra rb i))]) rfl ?_
                rcases hpk : plK ra rb i with _ | t0
                · refine W.eq (g2 := F0 m 85 ls [.int (-1)]) rfl ?_
                  refine lv_goto (tgt := 89) hx hb d_VA_same_85 rfl ?_
                  refine lv_istore hx hb d_VA_same_89 hl (by decide) rfl (fun ls hl => ?_)
                  have hl : lv_has ls 5 [(4, .int (-1)), (3, .ref (xs1.getD i 0)), (2, .int (nI i)), (0, .ref a), (1, .ref b)] := hl
                  refine lv_iload hx hb d_VA_same_91 (lv_at hl 0 rfl) ?_
                  refine lv_if_lt (tgt := 115) hx hb d_VA_same_93 rfl (fun _ => ?_) (fun h9 => absurd (by decide) h9)
                  refine lv_iconst (v := 0) hx hb d_VA_same_115 (by decide) ?_
                  have hP9 := zz_pickP (pre := []) (fz := fz) (wc := []) hP [] rfl
                  have hD9 := zz_pickD (pre := []) (fz := fz) (wc := []) hD [] (by decide) rfl
                  have hK9 := hK.sub (tys' := [(cB, .byte), (cO, .object "java/lang/Object")]) [0, 1] rfl
                  rw [hQ]
                  refine W.widen (k := 0) (n := 0) (Nat.le_of_ble_eq_true rfl) (Nat.le_of_ble_eq_true rfl) ?_
                  exact W.zret (v := 0) hx hb hr (by decide) (fun t ht hW => ⟨⟨0, (), rfl, by rw [hsm, smR_bad (i := i) (by omega) (by rw [hpk])]; rfl, ⟨by rw [ht]; exact hP9, va_K.moved hW.alike hK9, hD9⟩⟩, hS.F ht⟩) hS.2.2 d_VA_same_116
                · refine W.eq (g2 := F0 m 85 ls [.int (nI t0)]) rfl ?_
                  have ht0 : t0 < xs2.length := by unfold plK at hpk; rw [if_pos (hhk1.trans h5)] at hpk; have := (nix_lt hpk).1; rw [ksN_len] at this; omega
                  have hvt := hvl2 t0 ht0
                  obtain ⟨kd9, tx9, nu9, nm9, pa9, dp9, cn9, hc9, hn9⟩ := hvt.cellN
                  refine lv_goto (tgt := 89) hx hb d_VA_same_85 rfl ?_
                  refine lv_istore hx hb d_VA_same_89 hl (by decide) rfl (fun ls hl => ?_)
                  have hl : lv_has ls 5 [(4, .int (nI t0)), (3, .ref (xs1.getD i 0)), (2, .int (nI i)), (0, .ref a), (1, .ref b)] := hl
                  refine lv_iload hx hb d_VA_same_91 (lv_at hl 0 rfl) ?_
                  refine lv_if_lt (tgt := 115) hx hb d_VA_same_93 rfl (fun h9 => absurd h9 (nI_pos (by omega))) (fun _ => ?_)
                  refine lv_aload_n hx hb d_VA_same_96 rfl (lv_at hl 1 rfl) ?_
                  refine lv_aload_n hx hb d_VA_same_97 rfl (lv_at hl 4 rfl) ?_
                  obtain ⟨qz25, hz25⟩ := List.getElem?_of_mem (List.mem_append_right [] hc2)
                  refine va_get (D := (dC, dI)) (ci := 3) (v := .ref pa2) (C := R_VA) (T := T_VA) (N := 7) hx hb htb in_VA hown hK hP qz25 hz25 rfl 4 (by decide) (htb _ m_393) (fun _ h9 => h9) rfl d_VA_same_98 ?_
                  refine lv_iload hx hb d_VA_same_101 (lv_at hl 0 rfl) ?_
                  have hPc : va_P (dC, dI) vwCl ([] ++ fz) _ := zz_tlP (pre := []) (tl := fz) hP
                  have hKc := hK.sub (tys' := [(cO, .object "java/lang/Object")]) [1] rfl
                  refine va_csq (W.runV (As := [.int (nI t0)]) (rest := [.ref (xs1.getD i 0)]) ⟨hx, hb, hml, hown, htb⟩ (z_AL_get l dC dI pa2 xs2 cO em t0 fz hal2 ht0) (cwV 1 htb (g_V (fun _ h => h) m_490 m_487 m_488 m_489 m_8) rfl rfl rfl (by decide +kernel) ⟨(by show 3 ≤ (10 + 2 * d); omega), (by show 64 ≤ (200 + 60 * d); omega)⟩) ⟨fun a U g mk q => by obtain ⟨q0, qP, qK⟩ := q; exact ⟨q0, qP, va_K.moved (u := U) (U := U.calling g mk a) (Vm.Alike.refl U.vm) qK⟩, (hal2).recv hK hP (fun q hq => List.mem_append_right _ hq), fun U hU hW => ⟨rfl, by rw [hU]; exact hPc, va_K.moved hW.alike hKc⟩⟩ rfl rfl hl.1 rfl (lv_room (Nat.le_of_ble_eq_true rfl)) d_VA_same_103 ⟨Nat.le_of_ble_eq_true rfl, Nat.le_of_ble_eq_true rfl⟩) (fun r26 hw27 => ?_)
                  have hw27 : r26 = some (xs2.getD t0 0) := hw27
                  obtain rfl := hw27
                  refine W.eq (g2 := F0 m 106 ls [.ref (xs2.getD t0 0), .ref (xs1.getD i 0)]) rfl ?_
                  refine va_castY (C := "PatchStore$Value") hx hb hown (htb _ m_499) (nw_14 hE) (zz_recv hK hP (ci := 3) rfl (List.mem_append_right _ hc9)) d_VA_same_106 ?_
                  have hPc := zz_pickP (pre := []) (fz := fz) (wc := []) hP [] rfl
                  have hDc := zz_pickD (pre := []) (fz := fz) (wc := []) hD [] (by decide) rfl
                  have hFc := zz_free (pre := []) (fz := fz) (wc := []) hD hS hA [] rfl
                  have hKc := hK.sub (tys' := [(cB, .byte), (cO, .object "java/lang/Object")]) [0, 1] rfl
                  refine va_calli (va_runS (As := [.ref (xs1.getD i 0), .ref (xs2.getD t0 0)]) (rest := []) ⟨hx, hb, hml, hown, htb⟩ ((HR d1 hd1) l dC dI _ (xs1.getD i 0) (xs2.getD t0 0) (ns1.getD i []) (ns2.getD t0 []) ((ksR ra).getD i []) ((ksR rb).getD t0 []) cB cO em aK aV fz hvi hvt (by omega)) (va_cwS 2 htb (g_S (fun _ h => h) m_836 m_837 m_835 m_18) rfl rfl rfl (by decide +kernel) ⟨(by show ((10 + 2 * d1) + 1) ≤ (10 + 2 * d); omega), (by show (24 + (200 + 60 * d1)) ≤ (200 + 60 * d); omega)⟩) ⟨fun a U g mk q => by obtain ⟨q0, q1, qP, qK, qD, z0⟩ := q; exact ⟨q0, q1, qP, va_K.moved (u := U) (U := U.calling g mk a) (Vm.Alike.refl U.vm) qK, qD, EX.same (U := U) (U' := U.calling g mk a) rfl z0⟩, fun U hU hW => ⟨rfl, by rw [hU], by rw [hU]; exact hPc, va_K.moved hW.alike hKc, hDc.weaken (fun _ _ _ _ => trivial), by rw [hU]; exact EX.warm hW ((hE.kept (fun a h1 h2 => hS.2.1 a h1 h2)).narrow hFc)⟩⟩ rfl rfl hl.1 rfl (lv_room (Nat.le_of_ble_eq_true rfl)) d_VA_same_109 ⟨Nat.le_of_ble_eq_true rfl, Nat.le_of_ble_eq_true rfl⟩) hS (fun q _ h => hFc q h) hFc (fun r29 u28 t H1 locs ht hvm hw30 hB hz1 hk1 hS => ?_)
                  obtain ⟨hP1, hK1, hD1⟩ := hB
                  rw [ht] at hP1
                  have hK1 := va_K.moved hvm.symm hK1
                  have hw30 : r29 = bI (smR d1 ((ksR ra).getD i []) ((ksR rb).getD t0 [])) := hw30
                  obtain ⟨hP, hD⟩ := zz_join (pre := []) (fz := fz) (wc := []) (wr := []) (w1 := ([] ++ fz)) hP hD [] [] rfl rfl (by decide) (by decide) hk1 hFc hP1 hD1
                  have hK := (hK.sub (tys' := []) [] rfl).app hK1
                  generalize H1 = H at hP hS ⊢
                  have hP : va_P (dC, dI) vwCl ([] ++ fz) H := hP
                  have hD : va_D A ([] ++ fz) := hD
                  have hK : va_K (dC, dI) vwCl [(cB, .byte), (cO, .object "java/lang/Object")] s := hK
                  refine lv_if_ne (tgt := 117) hx hb d_VA_same_112 rfl (fun h8 => ?_) (fun h8 => ?_)
                  · have hb9 : smR d1 ((ksR ra).getD i []) ((ksR rb).getD t0 []) = true := bI_ne.mp (show ¬ bI _ = 0 from hw30 ▸ h8)
                    refine lv_iinc (k := 2) (v := ((nI i) + Int32.ofInt 1)) hx hb d_VA_same_117 hl rfl rfl (by decide) rfl (fun ls hl => ?_)
                    have hl : lv_has ls 5 [(2, .int ((nI i) + Int32.ofInt 1)), (4, .int (nI t0)), (3, .ref (xs1.getD i 0)), (0, .ref a), (1, .ref b)] := hl
                    rw [show nI i + Int32.ofInt 1 = nI (i + 1) from nI_1 _] at hl
                    refine lv_goto (tgt := 46) hx hb d_VA_same_120 rfl ?_
                    exact ih (xs1.length - (i + 1)) (by omega) (i + 1) H locs ls rfl (by omega) (fun q hq => by rcases Nat.lt_succ_iff_lt_or_eq.mp hq with h | rfl; exact hi2 q h; rw [hpk]; exact hb9) (lv_sub hl [0, 3, 4] rfl) (zz_pickP (pre := []) (fz := fz) (wc := []) hP [] rfl) (zz_pickD (pre := []) (fz := fz) (wc := []) hD [] (by decide) rfl) hS
                  · have hb9 : smR d1 ((ksR ra).getD i []) ((ksR rb).getD t0 []) = false := bI_eq.mp (show bI _ = 0 from hw30 ▸ h8)
                    refine lv_iconst (v := 0) hx hb d_VA_same_115 (by decide) ?_
                    have hP9 := zz_pickP (pre := []) (fz := fz) (wc := []) hP [] rfl
                    have hD9 := zz_pickD (pre := []) (fz := fz) (wc := []) hD [] (by decide) rfl
                    have hK9 := hK.sub (tys' := [(cB, .byte), (cO, .object "java/lang/Object")]) [0, 1] rfl
                    rw [hQ]
                    refine W.widen (k := 0) (n := 0) (Nat.le_of_ble_eq_true rfl) (Nat.le_of_ble_eq_true rfl) ?_
                    exact W.zret (v := 0) hx hb hr (by decide) (fun t ht hW => ⟨⟨0, (), rfl, by rw [hsm, smR_bad (i := i) (by omega) (by rw [hpk]; exact hb9)]; rfl, ⟨by rw [ht]; exact hP9, va_K.moved hW.alike hK9, hD9⟩⟩, hS.F ht⟩) hS.2.2 d_VA_same_116
        exact hloop _ 0 _ _ ls rfl (Nat.zero_le _) (fun q hq => absurd hq (Nat.not_lt_zero _)) (lv_sub hl [0, 1, 2] rfl) (zz_pickP (pre := []) (fz := fz) (wc := []) hP [] rfl) (zz_pickD (pre := []) (fz := fz) (wc := []) hD [] (by decide) rfl) hS
      · have h3 : ¬ xs1.length = xs2.length := fun h => h3 (by rw [h])
        refine lv_iconst (v := 0) hx hb d_VA_same_42 (by decide) ?_
        have hP9 := zz_pickP (pre := []) (fz := fz) (wc := []) hP [] rfl
        have hD9 := zz_pickD (pre := []) (fz := fz) (wc := []) hD [] (by decide) rfl
        have hK9 := hK.sub (tys' := [(cB, .byte), (cO, .object "java/lang/Object")]) [0, 1] rfl
        rw [hQ]
        refine W.widen (k := 0) (n := 0) (Nat.le_of_ble_eq_true rfl) (Nat.le_of_ble_eq_true rfl) ?_
        exact W.zret (v := 0) hx hb hr (by decide) (fun t ht hW => ⟨⟨0, (), rfl, by rw [hsm, smR_no (Or.inr (by omega))]; rfl, ⟨by rw [ht]; exact hP9, va_K.moved hW.alike hK9, hD9⟩⟩, hS.F ht⟩) hS.2.2 d_VA_same_43
theorem all_VA_same : ∀ d, C_VA_same d
  | 0 => fun l dC dI sz a b na nb ra rb cB cO em aK aV fz hva hvb hd9 => k_VA_same l dC dI sz a b 0 na nb ra rb cB cO em aK aV fz hva hvb hd9 (fun d1 h => absurd h (by omega))
  | d + 1 => fun l dC dI sz a b na nb ra rb cB cO em aK aV fz hva hvb hd9 => k_VA_same l dC dI sz a b (d + 1) na nb ra rb cB cO em aK aV fz hva hvb hd9 (fun d1 h => (show d = d1 by omega) ▸ all_VA_same d)
