/-- a list under way: its cells, and what they hold -/
def ALc (cO : ClassId) (em x : Nat) (xs : List Nat) (lz : va_W) : Prop :=
  (xs = [] ∧ ∃ mo : Int32, lz = [(x, Sum.inr (14, [Value.ref em, Value.int 0, Value.int mo]))]) ∨
  (∃ (k : Nat) (mo : Int32) (ed : Nat) (f : Nat → Option Nat), xs.length = k + 1 ∧ k < 160 ∧ lz = [(x, Sum.inr (14, [Value.ref ed, Value.int (nI (k + 1)), Value.int mo])), (ed, Sum.inl (cO, acap (k + 1), Sum.inr (Sum.inr (Sum.inr (Sum.inr f)))))] ∧ ∀ i, i < xs.length → f i = some (xs.getD i 0))
theorem ALc.frozen {cO : ClassId} {em x : Nat} {xs : List Nat} {lz : va_W} (h : ALc cO em x xs lz) : ALz cO em lz x xs := by
  rcases h with ⟨rfl, mo, rfl⟩ | ⟨k, mo, ed, f, hk, hk2, rfl, hf⟩
  · exact ⟨by simp, mo, Or.inl ⟨rfl, List.mem_cons_self⟩⟩
  · refine ⟨by omega, mo, Or.inr ⟨fun h => by simp [h] at hk, ed, f, ?_, ?_, hf⟩⟩
    · rw [hk]; exact List.mem_cons_self
    · rw [hk]; exact List.mem_cons_of_mem _ List.mem_cons_self
theorem al_none {cap n : Nat} {f : Nat → Option Nat} {xs : List Nat} (hn : xs.length = n) (hf : ∀ i, i < xs.length → f i = some (xs.getD i 0)) {v : Nat} : ∀ i, i < (xs ++ [v]).length → va_up (va_cpy f (fun _ => none) 0 0 n) n (some v) i = some ((xs ++ [v]).getD i 0) := by
  intro i hi
  subst hn
  simp only [List.length_append, List.length_singleton] at hi
  by_cases h : i = xs.length
  · subst h; simp [va_up, List.getD_eq_getElem?_getD]
  · have h2 : i < xs.length := by omega
    simp only [va_up, if_neg h, va_cpy, Nat.zero_le, true_and, Nat.zero_add, h2, if_true, Nat.sub_zero]
    rw [hf i h2]
    simp [List.getD_eq_getElem?_getD, List.getElem?_append_left h2]
theorem al_fit {n : Nat} {f : Nat → Option Nat} {xs : List Nat} (hn : xs.length = n) (hf : ∀ i, i < xs.length → f i = some (xs.getD i 0)) {v : Nat} : ∀ i, i < (xs ++ [v]).length → va_up f n (some v) i = some ((xs ++ [v]).getD i 0) := by
  intro i hi
  subst hn
  simp only [List.length_append, List.length_singleton] at hi
  by_cases h : i = xs.length
  · subst h; simp [va_up, List.getD_eq_getElem?_getD]
  · have h2 : i < xs.length := by omega
    simp only [va_up, if_neg h]
    rw [hf i h2]
    simp [List.getD_eq_getElem?_getD, List.getElem?_append_left h2]
theorem al_el {ci n : Nat} {f : Nat → Option Nat} {xs : List Nat} {fz : va_W} (hn : xs.length = n) (hf : ∀ i, i < xs.length → f i = some (xs.getD i 0)) (hel : ∀ y ∈ xs, Vin ci fz y) : ∀ i, i < n → ∀ y, f i = some y → Vin ci fz y := by
  intro i hi y hy
  rw [hf i (by omega)] at hy
  cases hy
  refine hel _ ?_
  rw [List.getD_eq_getElem?_getD, List.getElem?_eq_getElem (by omega)]
  exact List.getElem_mem _
theorem al_0 {xs : List Nat} (hx : xs = []) {v : Nat} : ∀ i, i < (xs ++ [v]).length → va_up (fun _ => none) 0 (some v) i = some ((xs ++ [v]).getD i 0) := by
  intro i hi
  subst hx
  have h0 : i = 0 := by simpa using hi
  subst h0
  rfl
theorem ac_fit : ∀ n, n < 160 → (n + 1 < acap (n + 1) ∧ acap (n + 2) = acap (n + 1)) ∨ n + 1 = 10 ∨ n + 1 = 15 ∨ n + 1 = 22 ∨ n + 1 = 33 ∨ n + 1 = 49 ∨ n + 1 = 73 ∨ n + 1 = 109 := by decide +kernel
theorem ac_le : ∀ n, n < 170 → acap n ≤ 163 := by decide +kernel
set_option maxHeartbeats 1000000 in
set_option maxRecDepth 100000 in
/-- add(v) -/
theorem k_AL_add (l : Launch) (dC : Nat → ClassId) (dI : Nat → Nat → Nat) (sz : Nat) (x : Nat) (xs : List Nat) (cO : ClassId) (ci : Nat) (v : Nat) (em : Nat) (aK : Nat → Nat) (aV : Nat → Nat) (lz : va_W) (fz : va_W) (hci : Oci ci) (hal : ALc cO em x xs lz) (hel : ∀ y ∈ xs, Vin ci fz y) (hv : Vin ci fz v) (hlen : xs.length < 160) : Met l y_AL_add ws_AL_add ({ frames := 6, cells := (acl (xs.length + 1) - acl xs.length), slots := (asl (xs.length + 1) - asl xs.length), locals := 150 }) (va_Pc [.ref x, .ref v] (fun U => U.heap.size = sz ∧ va_P (dC, dI) vwCl ([] ++ (lz ++ fz)) U.heap ∧ va_K (dC, dI) vwCl [(cO, .object "java/lang/Object")] U ∧ va_D (fun _ => True) ([] ++ (lz ++ fz)) ∧ EX em aK aV (va_A ([] ++ (lz ++ fz)) sz) U U.heap)) (va_Qi (fun (r : Int32) (u : va_W) => ALc cO em x (xs ++ [v]) u) (fun u t => va_P (dC, dI) vwCl ([] ++ (u ++ fz)) t.heap ∧ va_K (dC, dI) vwCl [(cO, .object "java/lang/Object")] t ∧ va_D (va_A ([] ++ (lz ++ fz)) sz) ([] ++ (u ++ fz))) (va_A ([] ++ (lz ++ fz)) sz)) (acl (xs.length + 1) - acl xs.length) (asl (xs.length + 1) - asl xs.length) (va_A ([] ++ (lz ++ fz)) sz) := by
  refine Met.ofW (cc := c_AL_add) (maxL := 2) (ret := (some .boolean)) (by decide) rfl ?_
  intro p e s m args below meth c s₁ B hml hv
  obtain ⟨rfl, hsz, hP, hK, hD0, hE⟩ := hv
  have hx := B.exec
  have hb := B.bytes
  have hr := B.returns
  have hts := atoms_spec (ws := ws_AL_add) B.pre
  have htb := fun w (h : w ∈ TBL) => hts w (List.mem_cons_of_mem _ h)
  have hown : s.vm.findClass R_AL = some m.cls := findClass_of_methodNamed B.named
  have hlocks := B.notSynchronized
  subst hsz
  have hD := hD0.self (sz := s.heap.size)
  generalize hAe : va_A ([] ++ (lz ++ fz)) s.heap.size = A at hD hE ⊢
  have hA : ∀ q : Nat, s.heap.size ≤ q → A q := fun q h => by rw [← hAe]; exact Or.inr h
  have hS : va_S A s.heap s.heap [] := va_S.rf
  have hP : va_P (dC, dI) vwCl ([] ++ (lz ++ fz)) s.heap := hP
  have hl := lv_entry ([.ref x, .ref v]) (n := 2) (Nat.le_of_ble_eq_true rfl)
  rw [lg_entry_eq]
  generalize (lg_sl ([.ref x, .ref v]) ++ List.replicate (2 - (lg_sl ([.ref x, .ref v])).length) Slot.unset).toArray = ls at hl ⊢
  have hl : lv_has ls 2 [(0, .ref x), (1, .ref v)] := hl
  rcases hal with ⟨hxs, mo, rfl⟩ | ⟨k, mo, ed, f, hk, hk2, rfl, hf⟩
  · have hcn : xs.length = 0 := by rw [hxs]; rfl
    have hP : va_P (dC, dI) vwCl ([(x, .inr (14, [.ref em, .int 0, .int mo]))] ++ fz) s.heap := hP
    have hD : va_D A ([(x, .inr (14, [.ref em, .int 0, .int mo]))] ++ fz) := hD
    refine lv_aload_n hx hb d_AL_add_0 rfl (lv_at hl 0 rfl) ?_
    refine lv_dup hx hb d_AL_add_1 rfl ?_
    refine va_get (D := (dC, dI)) (ci := 14) (v := .int mo) (C := R_AL) (T := T_AL) (N := 3) hx hb htb in_AL hown hK hP 0 rfl rfl 2 (by decide) (htb _ m_90) (fun x9 h9 => u_same (htb _ m_91) x9 h9) rfl d_AL_add_2 ?_
    refine lv_iconst (v := 1) hx hb d_AL_add_5 (by decide) ?_
    refine lv_iadd hx hb d_AL_add_6 ?_
    refine va_put (D := (dC, dI)) (ci := 14) (v := .int (mo + 1)) (ty := .int) (C := R_AL) (T := T_AL) (N := 3) hx hb htb in_AL ty_AL ty_AL_ok nm_AL hown hK hP hD hS 0 rfl rfl 2 (by decide) (htb _ m_90) (fun x9 h9 => u_same (htb _ m_91) x9 h9) rfl (by decide +kernel) rfl rfl (Nat.le_of_ble_eq_true rfl) d_AL_add_7 (fun H locs hP hD hS => ?_)
    have hP : va_P (dC, dI) vwCl ([(x, .inr (14, [.ref em, .int 0, .int (mo + 1)]))] ++ fz) H := hP
    have hD : va_D A ([(x, .inr (14, [.ref em, .int 0, .int (mo + 1)]))] ++ fz) := hD
    refine lv_aload_n hx hb d_AL_add_10 rfl (lv_at hl 0 rfl) ?_
    refine lv_aload_n hx hb d_AL_add_11 rfl (lv_at hl 1 rfl) ?_
    refine lv_aload_n hx hb d_AL_add_12 rfl (lv_at hl 0 rfl) ?_
    refine va_get (D := (dC, dI)) (ci := 14) (v := .ref em) (C := R_AL) (T := T_AL) (N := 3) hx hb htb in_AL hown hK hP 0 rfl rfl 0 (by decide) (htb _ m_87) (fun _ h9 => h9) rfl d_AL_add_13 ?_
    refine lv_aload_n hx hb d_AL_add_16 rfl (lv_at hl 0 rfl) ?_
    refine va_get (D := (dC, dI)) (ci := 14) (v := .int 0) (C := R_AL) (T := T_AL) (N := 3) hx hb htb in_AL hown hK hP 0 rfl rfl 1 (by decide) (htb _ m_88) (fun _ h9 => h9) rfl d_AL_add_17 ?_
    have hPc := zz_pickP (pre := [(x, .inr (14, [.ref em, .int 0, .int (mo + 1)]))]) (fz := fz) (wc := [(x, .inr (14, [.ref em, .int 0, .int (mo + 1)]))]) hP [0] rfl
    have hDc := zz_pickD (pre := [(x, .inr (14, [.ref em, .int 0, .int (mo + 1)]))]) (fz := fz) (wc := [(x, .inr (14, [.ref em, .int 0, .int (mo + 1)]))]) hD [0] (by decide) rfl
    have hFc := zz_free (pre := [(x, .inr (14, [.ref em, .int 0, .int (mo + 1)]))]) (fz := fz) (wc := [(x, .inr (14, [.ref em, .int 0, .int (mo + 1)]))]) hD hS hA [0] rfl
    have hKc := hK.sub (tys' := [(cO, .object "java/lang/Object")]) [0] rfl
    refine va_callv (va_runV (As := [.ref v, .ref em, .int 0]) (rest := []) ⟨hx, hb, hml, hown, htb⟩ (k_AL_add2_0 l dC dI _ x (mo + 1) cO ci v em aK aV fz hci hv) (cwV 3 htb (g_V (fun _ h => h) m_529 m_526 m_528 m_1630 m_8) rfl rfl rfl (by decide +kernel) ⟨Nat.le_of_ble_eq_true rfl, Nat.le_of_ble_eq_true rfl⟩) ⟨fun a U g mk q => by obtain ⟨q0, q1, qP, qK, qD, z0⟩ := q; exact ⟨q0, q1, qP, va_K.moved (u := U) (U := U.calling g mk a) (Vm.Alike.refl U.vm) qK, qD, EX.same (U := U) (U' := U.calling g mk a) rfl z0⟩, va_recv hK hP (ci := 14) rfl (q0 := 0) rfl, fun U hU hW => ⟨rfl, by rw [hU], by rw [hU]; exact hPc, va_K.moved hW.alike hKc, hDc.weaken (fun _ _ _ _ => trivial), by rw [hU]; exact EX.warm hW ((hE.kept (fun a h1 h2 => hS.2.1 a h1 h2)).narrow hFc)⟩⟩ rfl rfl hl.1 rfl (lv_room (Nat.le_of_ble_eq_true rfl)) d_AL_add_20 ⟨(by show 1 ≤ (acl (xs.length + 1) - acl xs.length); first | exact Nat.zero_le _ | (rw [hcn]; decide)), (by show 10 ≤ (asl (xs.length + 1) - asl xs.length); first | exact Nat.zero_le _ | (rw [hcn]; decide))⟩) hS (fun q _ h => hFc q h) hFc (fun u1 t H1 locs ht hvm hw3 hB hz1 hk1 hS => ?_)
    obtain ⟨x5, hP1, hK1, hD1⟩ := hB
    rw [ht] at hP1
    have hK1 := va_K.moved hvm.symm hK1
    have hw3 : True := hw3
    obtain ⟨hP, hD⟩ := zz_join (pre := [(x, .inr (14, [.ref em, .int 0, .int (mo + 1)]))]) (fz := fz) (wc := [(x, .inr (14, [.ref em, .int 0, .int (mo + 1)]))]) (wr := []) (w1 := ([(x, .inr (14, [.ref x5, .int 1, .int (mo + 1)])), (x5, .inl (cO, 10, .inr (.inr (.inr (.inr (va_up (fun _ => none) 0 (some v)))))))] ++ fz)) hP hD [0] [] rfl rfl (by decide) (by decide) hk1 hFc hP1 hD1
    have hK := (hK.sub (tys' := []) [] rfl).app hK1
    generalize H1 = H at hP hS ⊢
    have hP : va_P (dC, dI) vwCl ([(x, .inr (14, [.ref x5, .int 1, .int (mo + 1)])), (x5, .inl (cO, 10, .inr (.inr (.inr (.inr (va_up (fun _ => none) 0 (some v)))))))] ++ fz) H := hP
    have hD : va_D A ([(x, .inr (14, [.ref x5, .int 1, .int (mo + 1)])), (x5, .inl (cO, 10, .inr (.inr (.inr (.inr (va_up (fun _ => none) 0 (some v)))))))] ++ fz) := hD
    have hK : va_K (dC, dI) vwCl [(cO, .object "java/lang/Object")] s := hK
    refine W.widen (k := 1) (n := 10) (Nat.le_of_ble_eq_true rfl) (Nat.le_of_ble_eq_true rfl) ?_
    refine lv_iconst (v := 1) hx hb d_AL_add_23 (by decide) ?_
    have hP9 := zz_pickP (pre := [(x, .inr (14, [.ref x5, .int 1, .int (mo + 1)])), (x5, .inl (cO, 10, .inr (.inr (.inr (.inr (va_up (fun _ => none) 0 (some v)))))))]) (fz := fz) (wc := [(x, .inr (14, [.ref x5, .int 1, .int (mo + 1)])), (x5, .inl (cO, 10, .inr (.inr (.inr (.inr (va_up (fun _ => none) 0 (some v)))))))]) hP [0, 1] rfl
    have hD9 := zz_pickD (pre := [(x, .inr (14, [.ref x5, .int 1, .int (mo + 1)])), (x5, .inl (cO, 10, .inr (.inr (.inr (.inr (va_up (fun _ => none) 0 (some v)))))))]) (fz := fz) (wc := [(x, .inr (14, [.ref x5, .int 1, .int (mo + 1)])), (x5, .inl (cO, 10, .inr (.inr (.inr (.inr (va_up (fun _ => none) 0 (some v)))))))]) hD [0, 1] (by decide) rfl
    have hK9 := hK.sub (tys' := [(cO, .object "java/lang/Object")]) [0] rfl
    refine W.widen (k := (acl (xs.length + 1) - acl xs.length)) (n := (asl (xs.length + 1) - asl xs.length)) ((by show 1 ≤ (acl (xs.length + 1) - acl xs.length); first | exact Nat.zero_le _ | (rw [hcn]; decide))) ((by show 10 ≤ (asl (xs.length + 1) - asl xs.length); first | exact Nat.zero_le _ | (rw [hcn]; decide))) ?_
    exact W.zret (v := 1) hx hb hr (by decide) (fun t ht hW => ⟨⟨1, [(x, .inr (14, [.ref x5, .int 1, .int (mo + 1)])), (x5, .inl (cO, 10, .inr (.inr (.inr (.inr (va_up (fun _ => none) 0 (some v)))))))], rfl, Or.inr ⟨0, _, _, _, by simp [hxs], by decide, rfl, al_0 hxs⟩, ⟨by rw [ht]; exact hP9, va_K.moved hW.alike hK9, hD9⟩⟩, hS.F ht⟩) hS.2.2 d_AL_add_24
  · rcases ac_fit k hk2 with hft | hft | hft | hft | hft | hft | hft | hft
    · have hcn := hk
      have hP : va_P (dC, dI) vwCl ([(x, .inr (14, [.ref ed, .int (nI (k + 1)), .int mo])), (ed, .inl (cO, acap (k + 1), .inr (.inr (.inr (.inr f)))))] ++ fz) s.heap := hP
      have hD : va_D A ([(x, .inr (14, [.ref ed, .int (nI (k + 1)), .int mo])), (ed, .inl (cO, acap (k + 1), .inr (.inr (.inr (.inr f)))))] ++ fz) := hD
      refine lv_aload_n hx hb d_AL_add_0 rfl (lv_at hl 0 rfl) ?_
      refine lv_dup hx hb d_AL_add_1 rfl ?_
      refine va_get (D := (dC, dI)) (ci := 14) (v := .int mo) (C := R_AL) (T := T_AL) (N := 3) hx hb htb in_AL hown hK hP 0 rfl rfl 2 (by decide) (htb _ m_90) (fun x9 h9 => u_same (htb _ m_91) x9 h9) rfl d_AL_add_2 ?_
      refine lv_iconst (v := 1) hx hb d_AL_add_5 (by decide) ?_
      refine lv_iadd hx hb d_AL_add_6 ?_
      refine va_put (D := (dC, dI)) (ci := 14) (v := .int (mo + 1)) (ty := .int) (C := R_AL) (T := T_AL) (N := 3) hx hb htb in_AL ty_AL ty_AL_ok nm_AL hown hK hP hD hS 0 rfl rfl 2 (by decide) (htb _ m_90) (fun x9 h9 => u_same (htb _ m_91) x9 h9) rfl (by decide +kernel) rfl rfl (Nat.le_of_ble_eq_true rfl) d_AL_add_7 (fun H locs hP hD hS => ?_)
      have hP : va_P (dC, dI) vwCl ([(x, .inr (14, [.ref ed, .int (nI (k + 1)), .int (mo + 1)])), (ed, .inl (cO, acap (k + 1), .inr (.inr (.inr (.inr f)))))] ++ fz) H := hP
      have hD : va_D A ([(x, .inr (14, [.ref ed, .int (nI (k + 1)), .int (mo + 1)])), (ed, .inl (cO, acap (k + 1), .inr (.inr (.inr (.inr f)))))] ++ fz) := hD
      refine lv_aload_n hx hb d_AL_add_10 rfl (lv_at hl 0 rfl) ?_
      refine lv_aload_n hx hb d_AL_add_11 rfl (lv_at hl 1 rfl) ?_
      refine lv_aload_n hx hb d_AL_add_12 rfl (lv_at hl 0 rfl) ?_
      refine va_get (D := (dC, dI)) (ci := 14) (v := .ref ed) (C := R_AL) (T := T_AL) (N := 3) hx hb htb in_AL hown hK hP 0 rfl rfl 0 (by decide) (htb _ m_87) (fun _ h9 => h9) rfl d_AL_add_13 ?_
      refine lv_aload_n hx hb d_AL_add_16 rfl (lv_at hl 0 rfl) ?_
      refine va_get (D := (dC, dI)) (ci := 14) (v := .int (nI (k + 1))) (C := R_AL) (T := T_AL) (N := 3) hx hb htb in_AL hown hK hP 0 rfl rfl 1 (by decide) (htb _ m_88) (fun _ h9 => h9) rfl d_AL_add_17 ?_
      have hPc := zz_pickP (pre := [(x, .inr (14, [.ref ed, .int (nI (k + 1)), .int (mo + 1)])), (ed, .inl (cO, acap (k + 1), .inr (.inr (.inr (.inr f)))))]) (fz := fz) (wc := [(x, .inr (14, [.ref ed, .int (nI (k + 1)), .int (mo + 1)])), (ed, .inl (cO, (acap (k + 1)), .inr (.inr (.inr (.inr f)))))]) hP [0, 1] rfl
      have hDc := zz_pickD (pre := [(x, .inr (14, [.ref ed, .int (nI (k + 1)), .int (mo + 1)])), (ed, .inl (cO, acap (k + 1), .inr (.inr (.inr (.inr f)))))]) (fz := fz) (wc := [(x, .inr (14, [.ref ed, .int (nI (k + 1)), .int (mo + 1)])), (ed, .inl (cO, (acap (k + 1)), .inr (.inr (.inr (.inr f)))))]) hD [0, 1] (by decide) rfl
      have hFc := zz_free (pre := [(x, .inr (14, [.ref ed, .int (nI (k + 1)), .int (mo + 1)])), (ed, .inl (cO, acap (k + 1), .inr (.inr (.inr (.inr f)))))]) (fz := fz) (wc := [(x, .inr (14, [.ref ed, .int (nI (k + 1)), .int (mo + 1)])), (ed, .inl (cO, (acap (k + 1)), .inr (.inr (.inr (.inr f)))))]) hD hS hA [0, 1] rfl
      have hKc := hK.sub (tys' := [(cO, .object "java/lang/Object")]) [0] rfl
      refine va_callv (va_runV (As := [.ref v, .ref ed, .int (nI (k + 1))]) (rest := []) ⟨hx, hb, hml, hown, htb⟩ (k_AL_add2_fit l dC dI _ x (mo + 1) ed cO f ci (k + 1) (acap (k + 1)) v em aK aV fz hci hv hft.1 (ac_le _ (by omega))) (cwV 3 htb (g_V (fun _ h => h) m_529 m_526 m_528 m_1630 m_8) rfl rfl rfl (by decide +kernel) ⟨Nat.le_of_ble_eq_true rfl, Nat.le_of_ble_eq_true rfl⟩) ⟨fun a U g mk q => by obtain ⟨q0, q1, qP, qK, qD, z0⟩ := q; exact ⟨q0, q1, qP, va_K.moved (u := U) (U := U.calling g mk a) (Vm.Alike.refl U.vm) qK, qD, EX.same (U := U) (U' := U.calling g mk a) rfl z0⟩, va_recv hK hP (ci := 14) rfl (q0 := 0) rfl, fun U hU hW => ⟨rfl, by rw [hU], by rw [hU]; exact hPc, va_K.moved hW.alike hKc, hDc.weaken (fun _ _ _ _ => trivial), by rw [hU]; exact EX.warm hW ((hE.kept (fun a h1 h2 => hS.2.1 a h1 h2)).narrow hFc)⟩⟩ rfl rfl hl.1 rfl (lv_room (Nat.le_of_ble_eq_true rfl)) d_AL_add_20 ⟨(by show 0 ≤ (acl (xs.length + 1) - acl xs.length); first | exact Nat.zero_le _ | (rw [hcn]; decide)), (by show 0 ≤ (asl (xs.length + 1) - asl xs.length); first | exact Nat.zero_le _ | (rw [hcn]; decide))⟩) hS (fun q _ h => hFc q h) hFc (fun u1 t H1 locs ht hvm hw3 hB hz1 hk1 hS => ?_)
      obtain ⟨hP1, hK1, hD1⟩ := hB
      rw [ht] at hP1
      have hK1 := va_K.moved hvm.symm hK1
      have hw3 : True := hw3
      obtain ⟨hP, hD⟩ := zz_join (pre := [(x, .inr (14, [.ref ed, .int (nI (k + 1)), .int (mo + 1)])), (ed, .inl (cO, acap (k + 1), .inr (.inr (.inr (.inr f)))))]) (fz := fz) (wc := [(x, .inr (14, [.ref ed, .int (nI (k + 1)), .int (mo + 1)])), (ed, .inl (cO, (acap (k + 1)), .inr (.inr (.inr (.inr f)))))]) (wr := []) (w1 := ([(x, .inr (14, [.ref ed, .int (nI ((k + 1) + 1)), .int (mo + 1)])), (ed, .inl (cO, (acap (k + 1)), .inr (.inr (.inr (.inr (va_up f (k + 1) (some v)))))))] ++ fz)) hP hD [0, 1] [] rfl rfl (by decide) (by decide) hk1 hFc hP1 hD1
      have hK := (hK.sub (tys' := []) [] rfl).app hK1
      generalize H1 = H at hP hS ⊢
      have hP : va_P (dC, dI) vwCl ([(x, .inr (14, [.ref ed, .int (nI ((k + 1) + 1)), .int (mo + 1)])), (ed, .inl (cO, (acap (k + 1)), .inr (.inr (.inr (.inr (va_up f (k + 1) (some v)))))))] ++ fz) H := hP
      have hD : va_D A ([(x, .inr (14, [.ref ed, .int (nI ((k + 1) + 1)), .int (mo + 1)])), (ed, .inl (cO, (acap (k + 1)), .inr (.inr (.inr (.inr (va_up f (k + 1) (some v)))))))] ++ fz) := hD
      have hK : va_K (dC, dI) vwCl [(cO, .object "java/lang/Object")] s := hK
      refine lv_iconst (v := 1) hx hb d_AL_add_23 (by decide) ?_
      have hP9 := zz_pickP (pre := [(x, .inr (14, [.ref ed, .int (nI ((k + 1) + 1)), .int (mo + 1)])), (ed, .inl (cO, (acap (k + 1)), .inr (.inr (.inr (.inr (va_up f (k + 1) (some v)))))))]) (fz := fz) (wc := [(x, .inr (14, [.ref ed, .int (nI ((k + 1) + 1)), .int (mo + 1)])), (ed, .inl (cO, (acap (k + 1)), .inr (.inr (.inr (.inr (va_up f (k + 1) (some v)))))))]) hP [0, 1] rfl
      have hD9 := zz_pickD (pre := [(x, .inr (14, [.ref ed, .int (nI ((k + 1) + 1)), .int (mo + 1)])), (ed, .inl (cO, (acap (k + 1)), .inr (.inr (.inr (.inr (va_up f (k + 1) (some v)))))))]) (fz := fz) (wc := [(x, .inr (14, [.ref ed, .int (nI ((k + 1) + 1)), .int (mo + 1)])), (ed, .inl (cO, (acap (k + 1)), .inr (.inr (.inr (.inr (va_up f (k + 1) (some v)))))))]) hD [0, 1] (by decide) rfl
      have hK9 := hK.sub (tys' := [(cO, .object "java/lang/Object")]) [0] rfl
      refine W.widen (k := (acl (xs.length + 1) - acl xs.length)) (n := (asl (xs.length + 1) - asl xs.length)) ((by show 0 ≤ (acl (xs.length + 1) - acl xs.length); first | exact Nat.zero_le _ | (rw [hcn]; decide))) ((by show 0 ≤ (asl (xs.length + 1) - asl xs.length); first | exact Nat.zero_le _ | (rw [hcn]; decide))) ?_
      exact W.zret (v := 1) hx hb hr (by decide) (fun t ht hW => ⟨⟨1, [(x, .inr (14, [.ref ed, .int (nI ((k + 1) + 1)), .int (mo + 1)])), (ed, .inl (cO, (acap (k + 1)), .inr (.inr (.inr (.inr (va_up f (k + 1) (some v)))))))], rfl, Or.inr ⟨k + 1, _, ed, _, by simp [hk], by omega, by rw [hft.2], al_fit hk hf⟩, ⟨by rw [ht]; exact hP9, va_K.moved hW.alike hK9, hD9⟩⟩, hS.F ht⟩) hS.2.2 d_AL_add_24
    · obtain rfl : k = 9 := by omega
      have hcn : xs.length = 10 := hk
      have hP : va_P (dC, dI) vwCl ([(x, .inr (14, [.ref ed, .int 10, .int mo])), (ed, .inl (cO, 10, .inr (.inr (.inr (.inr f)))))] ++ fz) s.heap := hP
      have hD : va_D A ([(x, .inr (14, [.ref ed, .int 10, .int mo])), (ed, .inl (cO, 10, .inr (.inr (.inr (.inr f)))))] ++ fz) := hD
      refine lv_aload_n hx hb d_AL_add_0 rfl (lv_at hl 0 rfl) ?_
      refine lv_dup hx hb d_AL_add_1 rfl ?_
      refine va_get (D := (dC, dI)) (ci := 14) (v := .int mo) (C := R_AL) (T := T_AL) (N := 3) hx hb htb in_AL hown hK hP 0 rfl rfl 2 (by decide) (htb _ m_90) (fun x9 h9 => u_same (htb _ m_91) x9 h9) rfl d_AL_add_2 ?_
      refine lv_iconst (v := 1) hx hb d_AL_add_5 (by decide) ?_
      refine lv_iadd hx hb d_AL_add_6 ?_
      refine va_put (D := (dC, dI)) (ci := 14) (v := .int (mo + 1)) (ty := .int) (C := R_AL) (T := T_AL) (N := 3) hx hb htb in_AL ty_AL ty_AL_ok nm_AL hown hK hP hD hS 0 rfl rfl 2 (by decide) (htb _ m_90) (fun x9 h9 => u_same (htb _ m_91) x9 h9) rfl (by decide +kernel) rfl rfl (Nat.le_of_ble_eq_true rfl) d_AL_add_7 (fun H locs hP hD hS => ?_)
      have hP : va_P (dC, dI) vwCl ([(x, .inr (14, [.ref ed, .int 10, .int (mo + 1)])), (ed, .inl (cO, 10, .inr (.inr (.inr (.inr f)))))] ++ fz) H := hP
      have hD : va_D A ([(x, .inr (14, [.ref ed, .int 10, .int (mo + 1)])), (ed, .inl (cO, 10, .inr (.inr (.inr (.inr f)))))] ++ fz) := hD
      refine lv_aload_n hx hb d_AL_add_10 rfl (lv_at hl 0 rfl) ?_
      refine lv_aload_n hx hb d_AL_add_11 rfl (lv_at hl 1 rfl) ?_
      refine lv_aload_n hx hb d_AL_add_12 rfl (lv_at hl 0 rfl) ?_
      refine va_get (D := (dC, dI)) (ci := 14) (v := .ref ed) (C := R_AL) (T := T_AL) (N := 3) hx hb htb in_AL hown hK hP 0 rfl rfl 0 (by decide) (htb _ m_87) (fun _ h9 => h9) rfl d_AL_add_13 ?_
      refine lv_aload_n hx hb d_AL_add_16 rfl (lv_at hl 0 rfl) ?_
      refine va_get (D := (dC, dI)) (ci := 14) (v := .int 10) (C := R_AL) (T := T_AL) (N := 3) hx hb htb in_AL hown hK hP 0 rfl rfl 1 (by decide) (htb _ m_88) (fun _ h9 => h9) rfl d_AL_add_17 ?_
      have hPc := zz_pickP (pre := [(x, .inr (14, [.ref ed, .int 10, .int (mo + 1)])), (ed, .inl (cO, 10, .inr (.inr (.inr (.inr f)))))]) (fz := fz) (wc := [(x, .inr (14, [.ref ed, .int 10, .int (mo + 1)])), (ed, .inl (cO, 10, .inr (.inr (.inr (.inr f)))))]) hP [0, 1] rfl
      have hDc := zz_pickD (pre := [(x, .inr (14, [.ref ed, .int 10, .int (mo + 1)])), (ed, .inl (cO, 10, .inr (.inr (.inr (.inr f)))))]) (fz := fz) (wc := [(x, .inr (14, [.ref ed, .int 10, .int (mo + 1)])), (ed, .inl (cO, 10, .inr (.inr (.inr (.inr f)))))]) hD [0, 1] (by decide) rfl
      have hFc := zz_free (pre := [(x, .inr (14, [.ref ed, .int 10, .int (mo + 1)])), (ed, .inl (cO, 10, .inr (.inr (.inr (.inr f)))))]) (fz := fz) (wc := [(x, .inr (14, [.ref ed, .int 10, .int (mo + 1)])), (ed, .inl (cO, 10, .inr (.inr (.inr (.inr f)))))]) hD hS hA [0, 1] rfl
      have hKc := hK.sub (tys' := [(cO, .object "java/lang/Object")]) [0] rfl
      refine va_callv (va_runV (As := [.ref v, .ref ed, .int 10]) (rest := []) ⟨hx, hb, hml, hown, htb⟩ (k_AL_add2_10 l dC dI _ x (mo + 1) ed cO f ci em aK aV v fz hci (al_el hcn hf hel) hv) (cwV 3 htb (g_V (fun _ h => h) m_529 m_526 m_528 m_1630 m_8) rfl rfl rfl (by decide +kernel) ⟨Nat.le_of_ble_eq_true rfl, Nat.le_of_ble_eq_true rfl⟩) ⟨fun a U g mk q => by obtain ⟨q0, q1, qP, qK, qD, z0⟩ := q; exact ⟨q0, q1, qP, va_K.moved (u := U) (U := U.calling g mk a) (Vm.Alike.refl U.vm) qK, qD, EX.same (U := U) (U' := U.calling g mk a) rfl z0⟩, va_recv hK hP (ci := 14) rfl (q0 := 0) rfl, fun U hU hW => ⟨rfl, by rw [hU], by rw [hU]; exact hPc, va_K.moved hW.alike hKc, hDc.weaken (fun _ _ _ _ => trivial), by rw [hU]; exact EX.warm hW ((hE.kept (fun a h1 h2 => hS.2.1 a h1 h2)).narrow hFc)⟩⟩ rfl rfl hl.1 rfl (lv_room (Nat.le_of_ble_eq_true rfl)) d_AL_add_20 ⟨(by show 1 ≤ (acl (xs.length + 1) - acl xs.length); first | exact Nat.zero_le _ | (rw [hcn]; decide)), (by show 15 ≤ (asl (xs.length + 1) - asl xs.length); first | exact Nat.zero_le _ | (rw [hcn]; decide))⟩) hS (fun q _ h => hFc q h) hFc (fun u1 t H1 locs ht hvm hw3 hB hz1 hk1 hS => ?_)
      obtain ⟨x5, hP1, hK1, hD1⟩ := hB
      rw [ht] at hP1
      have hK1 := va_K.moved hvm.symm hK1
      have hw3 : True := hw3
      obtain ⟨hP, hD⟩ := zz_join (pre := [(x, .inr (14, [.ref ed, .int 10, .int (mo + 1)])), (ed, .inl (cO, 10, .inr (.inr (.inr (.inr f)))))]) (fz := fz) (wc := [(x, .inr (14, [.ref ed, .int 10, .int (mo + 1)])), (ed, .inl (cO, 10, .inr (.inr (.inr (.inr f)))))]) (wr := []) (w1 := ([(x, .inr (14, [.ref x5, .int 11, .int (mo + 1)])), (x5, .inl (cO, 15, .inr (.inr (.inr (.inr (va_up (va_cpy f (fun _ => none) 0 0 10) 10 (some v)))))))] ++ fz)) hP hD [0, 1] [] rfl rfl (by decide) (by decide) hk1 hFc hP1 hD1
      have hK := (hK.sub (tys' := []) [] rfl).app hK1
      generalize H1 = H at hP hS ⊢
      have hP : va_P (dC, dI) vwCl ([(x, .inr (14, [.ref x5, .int 11, .int (mo + 1)])), (x5, .inl (cO, 15, .inr (.inr (.inr (.inr (va_up (va_cpy f (fun _ => none) 0 0 10) 10 (some v)))))))] ++ fz) H := hP
      have hD : va_D A ([(x, .inr (14, [.ref x5, .int 11, .int (mo + 1)])), (x5, .inl (cO, 15, .inr (.inr (.inr (.inr (va_up (va_cpy f (fun _ => none) 0 0 10) 10 (some v)))))))] ++ fz) := hD
      have hK : va_K (dC, dI) vwCl [(cO, .object "java/lang/Object")] s := hK
      refine W.widen (k := 1) (n := 15) (Nat.le_of_ble_eq_true rfl) (Nat.le_of_ble_eq_true rfl) ?_
      refine lv_iconst (v := 1) hx hb d_AL_add_23 (by decide) ?_
      have hP9 := zz_pickP (pre := [(x, .inr (14, [.ref x5, .int 11, .int (mo + 1)])), (x5, .inl (cO, 15, .inr (.inr (.inr (.inr (va_up (va_cpy f (fun _ => none) 0 0 10) 10 (some v)))))))]) (fz := fz) (wc := [(x, .inr (14, [.ref x5, .int 11, .int (mo + 1)])), (x5, .inl (cO, 15, .inr (.inr (.inr (.inr (va_up (va_cpy f (fun _ => none) 0 0 10) 10 (some v)))))))]) hP [0, 1] rfl
      have hD9 := zz_pickD (pre := [(x, .inr (14, [.ref x5, .int 11, .int (mo + 1)])), (x5, .inl (cO, 15, .inr (.inr (.inr (.inr (va_up (va_cpy f (fun _ => none) 0 0 10) 10 (some v)))))))]) (fz := fz) (wc := [(x, .inr (14, [.ref x5, .int 11, .int (mo + 1)])), (x5, .inl (cO, 15, .inr (.inr (.inr (.inr (va_up (va_cpy f (fun _ => none) 0 0 10) 10 (some v)))))))]) hD [0, 1] (by decide) rfl
      have hK9 := hK.sub (tys' := [(cO, .object "java/lang/Object")]) [0] rfl
      refine W.widen (k := (acl (xs.length + 1) - acl xs.length)) (n := (asl (xs.length + 1) - asl xs.length)) ((by show 1 ≤ (acl (xs.length + 1) - acl xs.length); first | exact Nat.zero_le _ | (rw [hcn]; decide))) ((by show 15 ≤ (asl (xs.length + 1) - asl xs.length); first | exact Nat.zero_le _ | (rw [hcn]; decide))) ?_
      exact W.zret (v := 1) hx hb hr (by decide) (fun t ht hW => ⟨⟨1, [(x, .inr (14, [.ref x5, .int 11, .int (mo + 1)])), (x5, .inl (cO, 15, .inr (.inr (.inr (.inr (va_up (va_cpy f (fun _ => none) 0 0 10) 10 (some v)))))))], rfl, Or.inr ⟨10, _, x5, _, by simp [hcn], by decide, rfl, al_none (cap := 15) hcn hf⟩, ⟨by rw [ht]; exact hP9, va_K.moved hW.alike hK9, hD9⟩⟩, hS.F ht⟩) hS.2.2 d_AL_add_24
    · obtain rfl : k = 14 := by omega
      have hcn : xs.length = 15 := hk
      have hP : va_P (dC, dI) vwCl ([(x, .inr (14, [.ref ed, .int 15, .int mo])), (ed, .inl (cO, 15, .inr (.inr (.inr (.inr f)))))] ++ fz) s.heap := hP
      have hD : va_D A ([(x, .inr (14, [.ref ed, .int 15, .int mo])), (ed, .inl (cO, 15, .inr (.inr (.inr (.inr f)))))] ++ fz) := hD
      refine lv_aload_n hx hb d_AL_add_0 rfl (lv_at hl 0 rfl) ?_
      refine lv_dup hx hb d_AL_add_1 rfl ?_
      refine va_get (D := (dC, dI)) (ci := 14) (v := .int mo) (C := R_AL) (T := T_AL) (N := 3) hx hb htb in_AL hown hK hP 0 rfl rfl 2 (by decide) (htb _ m_90) (fun x9 h9 => u_same (htb _ m_91) x9 h9) rfl d_AL_add_2 ?_
      refine lv_iconst (v := 1) hx hb d_AL_add_5 (by decide) ?_
      refine lv_iadd hx hb d_AL_add_6 ?_
      refine va_put (D := (dC, dI)) (ci := 14) (v := .int (mo + 1)) (ty := .int) (C := R_AL) (T := T_AL) (N := 3) hx hb htb in_AL ty_AL ty_AL_ok nm_AL hown hK hP hD hS 0 rfl rfl 2 (by decide) (htb _ m_90) (fun x9 h9 => u_same (htb _ m_91) x9 h9) rfl (by decide +kernel) rfl rfl (Nat.le_of_ble_eq_true rfl) d_AL_add_7 (fun H locs hP hD hS => ?_)
      have hP : va_P (dC, dI) vwCl ([(x, .inr (14, [.ref ed, .int 15, .int (mo + 1)])), (ed, .inl (cO, 15, .inr (.inr (.inr (.inr f)))))] ++ fz) H := hP
      have hD : va_D A ([(x, .inr (14, [.ref ed, .int 15, .int (mo + 1)])), (ed, .inl (cO, 15, .inr (.inr (.inr (.inr f)))))] ++ fz) := hD
      refine lv_aload_n hx hb d_AL_add_10 rfl (lv_at hl 0 rfl) ?_
      refine lv_aload_n hx hb d_AL_add_11 rfl (lv_at hl 1 rfl) ?_
      refine lv_aload_n hx hb d_AL_add_12 rfl (lv_at hl 0 rfl) ?_
      refine va_get (D := (dC, dI)) (ci := 14) (v := .ref ed) (C := R_AL) (T := T_AL) (N := 3) hx hb htb in_AL hown hK hP 0 rfl rfl 0 (by decide) (htb _ m_87) (fun _ h9 => h9) rfl d_AL_add_13 ?_
      refine lv_aload_n hx hb d_AL_add_16 rfl (lv_at hl 0 rfl) ?_
      refine va_get (D := (dC, dI)) (ci := 14) (v := .int 15) (C := R_AL) (T := T_AL) (N := 3) hx hb htb in_AL hown hK hP 0 rfl rfl 1 (by decide) (htb _ m_88) (fun _ h9 => h9) rfl d_AL_add_17 ?_
      have hPc := zz_pickP (pre := [(x, .inr (14, [.ref ed, .int 15, .int (mo + 1)])), (ed, .inl (cO, 15, .inr (.inr (.inr (.inr f)))))]) (fz := fz) (wc := [(x, .inr (14, [.ref ed, .int 15, .int (mo + 1)])), (ed, .inl (cO, 15, .inr (.inr (.inr (.inr f)))))]) hP [0, 1] rfl
      have hDc := zz_pickD (pre := [(x, .inr (14, [.ref ed, .int 15, .int (mo + 1)])), (ed, .inl (cO, 15, .inr (.inr (.inr (.inr f)))))]) (fz := fz) (wc := [(x, .inr (14, [.ref ed, .int 15, .int (mo + 1)])), (ed, .inl (cO, 15, .inr (.inr (.inr (.inr f)))))]) hD [0, 1] (by decide) rfl
      have hFc := zz_free (pre := [(x, .inr (14, [.ref ed, .int 15, .int (mo + 1)])), (ed, .inl (cO, 15, .inr (.inr (.inr (.inr f)))))]) (fz := fz) (wc := [(x, .inr (14, [.ref ed, .int 15, .int (mo + 1)])), (ed, .inl (cO, 15, .inr (.inr (.inr (.inr f)))))]) hD hS hA [0, 1] rfl
      have hKc := hK.sub (tys' := [(cO, .object "java/lang/Object")]) [0] rfl
      refine va_callv (va_runV (As := [.ref v, .ref ed, .int 15]) (rest := []) ⟨hx, hb, hml, hown, htb⟩ (k_AL_add2_15 l dC dI _ x (mo + 1) ed cO f ci em aK aV v fz hci (al_el hcn hf hel) hv) (cwV 3 htb (g_V (fun _ h => h) m_529 m_526 m_528 m_1630 m_8) rfl rfl rfl (by decide +kernel) ⟨Nat.le_of_ble_eq_true rfl, Nat.le_of_ble_eq_true rfl⟩) ⟨fun a U g mk q => by obtain ⟨q0, q1, qP, qK, qD, z0⟩ := q; exact ⟨q0, q1, qP, va_K.moved (u := U) (U := U.calling g mk a) (Vm.Alike.refl U.vm) qK, qD, EX.same (U := U) (U' := U.calling g mk a) rfl z0⟩, va_recv hK hP (ci := 14) rfl (q0 := 0) rfl, fun U hU hW => ⟨rfl, by rw [hU], by rw [hU]; exact hPc, va_K.moved hW.alike hKc, hDc.weaken (fun _ _ _ _ => trivial), by rw [hU]; exact EX.warm hW ((hE.kept (fun a h1 h2 => hS.2.1 a h1 h2)).narrow hFc)⟩⟩ rfl rfl hl.1 rfl (lv_room (Nat.le_of_ble_eq_true rfl)) d_AL_add_20 ⟨(by show 1 ≤ (acl (xs.length + 1) - acl xs.length); first | exact Nat.zero_le _ | (rw [hcn]; decide)), (by show 22 ≤ (asl (xs.length + 1) - asl xs.length); first | exact Nat.zero_le _ | (rw [hcn]; decide))⟩) hS (fun q _ h => hFc q h) hFc (fun u1 t H1 locs ht hvm hw3 hB hz1 hk1 hS => ?_)
      obtain ⟨x5, hP1, hK1, hD1⟩ := hB
      rw [ht] at hP1
      have hK1 := va_K.moved hvm.symm hK1
      have hw3 : True := hw3
      obtain ⟨hP, hD⟩ := zz_join (pre := [(x, .inr (14, [.ref ed, .int 15, .int (mo + 1)])), (ed, .inl (cO, 15, .inr (.inr (.inr (.inr f)))))]) (fz := fz) (wc := [(x, .inr (14, [.ref ed, .int 15, .int (mo + 1)])), (ed, .inl (cO, 15, .inr (.inr (.inr (.inr f)))))]) (wr := []) (w1 := ([(x, .inr (14, [.ref x5, .int 16, .int (mo + 1)])), (x5, .inl (cO, 22, .inr (.inr (.inr (.inr (va_up (va_cpy f (fun _ => none) 0 0 15) 15 (some v)))))))] ++ fz)) hP hD [0, 1] [] rfl rfl (by decide) (by decide) hk1 hFc hP1 hD1
      have hK := (hK.sub (tys' := []) [] rfl).app hK1
      generalize H1 = H at hP hS ⊢
      have hP : va_P (dC, dI) vwCl ([(x, .inr (14, [.ref x5, .int 16, .int (mo + 1)])), (x5, .inl (cO, 22, .inr (.inr (.inr (.inr (va_up (va_cpy f (fun _ => none) 0 0 15) 15 (some v)))))))] ++ fz) H := hP
      have hD : va_D A ([(x, .inr (14, [.ref x5, .int 16, .int (mo + 1)])), (x5, .inl (cO, 22, .inr (.inr (.inr (.inr (va_up (va_cpy f (fun _ => none) 0 0 15) 15 (some v)))))))] ++ fz) := hD
      have hK : va_K (dC, dI) vwCl [(cO, .object "java/lang/Object")] s := hK
      refine W.widen (k := 1) (n := 22) (Nat.le_of_ble_eq_true rfl) (Nat.le_of_ble_eq_true rfl) ?_
      refine lv_iconst (v := 1) hx hb d_AL_add_23 (by decide) ?_
      have hP9 := zz_pickP (pre := [(x, .inr (14, [.ref x5, .int 16, .int (mo + 1)])), (x5, .inl (cO, 22, .inr (.inr (.inr (.inr (va_up (va_cpy f (fun _ => none) 0 0 15) 15 (some v)))))))]) (fz := fz) (wc := [(x, .inr (14, [.ref x5, .int 16, .int (mo + 1)])), (x5, .inl (cO, 22, .inr (.inr (.inr (.inr (va_up (va_cpy f (fun _ => none) 0 0 15) 15 (some v)))))))]) hP [0, 1] rfl
      have hD9 := zz_pickD (pre := [(x, .inr (14, [.ref x5, .int 16, .int (mo + 1)])), (x5, .inl (cO, 22, .inr (.inr (.inr (.inr (va_up (va_cpy f (fun _ => none) 0 0 15) 15 (some v)))))))]) (fz := fz) (wc := [(x, .inr (14, [.ref x5, .int 16, .int (mo + 1)])), (x5, .inl (cO, 22, .inr (.inr (.inr (.inr (va_up (va_cpy f (fun _ => none) 0 0 15) 15 (some v)))))))]) hD [0, 1] (by decide) rfl
      have hK9 := hK.sub (tys' := [(cO, .object "java/lang/Object")]) [0] rfl
      refine W.widen (k := (acl (xs.length + 1) - acl xs.length)) (n := (asl (xs.length + 1) - asl xs.length)) ((by show 1 ≤ (acl (xs.length + 1) - acl xs.length); first | exact Nat.zero_le _ | (rw [hcn]; decide))) ((by show 22 ≤ (asl (xs.length + 1) - asl xs.length); first | exact Nat.zero_le _ | (rw [hcn]; decide))) ?_
      exact W.zret (v := 1) hx hb hr (by decide) (fun t ht hW => ⟨⟨1, [(x, .inr (14, [.ref x5, .int 16, .int (mo + 1)])), (x5, .inl (cO, 22, .inr (.inr (.inr (.inr (va_up (va_cpy f (fun _ => none) 0 0 15) 15 (some v)))))))], rfl, Or.inr ⟨15, _, x5, _, by simp [hcn], by decide, rfl, al_none (cap := 22) hcn hf⟩, ⟨by rw [ht]; exact hP9, va_K.moved hW.alike hK9, hD9⟩⟩, hS.F ht⟩) hS.2.2 d_AL_add_24
    · obtain rfl : k = 21 := by omega
      have hcn : xs.length = 22 := hk
      have hP : va_P (dC, dI) vwCl ([(x, .inr (14, [.ref ed, .int 22, .int mo])), (ed, .inl (cO, 22, .inr (.inr (.inr (.inr f)))))] ++ fz) s.heap := hP
      have hD : va_D A ([(x, .inr (14, [.ref ed, .int 22, .int mo])), (ed, .inl (cO, 22, .inr (.inr (.inr (.inr f)))))] ++ fz) := hD
      refine lv_aload_n hx hb d_AL_add_0 rfl (lv_at hl 0 rfl) ?_
      refine lv_dup hx hb d_AL_add_1 rfl ?_
      refine va_get (D := (dC, dI)) (ci := 14) (v := .int mo) (C := R_AL) (T := T_AL) (N := 3) hx hb htb in_AL hown hK hP 0 rfl rfl 2 (by decide) (htb _ m_90) (fun x9 h9 => u_same (htb _ m_91) x9 h9) rfl d_AL_add_2 ?_
      refine lv_iconst (v := 1) hx hb d_AL_add_5 (by decide) ?_
      refine lv_iadd hx hb d_AL_add_6 ?_
      refine va_put (D := (dC, dI)) (ci := 14) (v := .int (mo + 1)) (ty := .int) (C := R_AL) (T := T_AL) (N := 3) hx hb htb in_AL ty_AL ty_AL_ok nm_AL hown hK hP hD hS 0 rfl rfl 2 (by decide) (htb _ m_90) (fun x9 h9 => u_same (htb _ m_91) x9 h9) rfl (by decide +kernel) rfl rfl (Nat.le_of_ble_eq_true rfl) d_AL_add_7 (fun H locs hP hD hS => ?_)
      have hP : va_P (dC, dI) vwCl ([(x, .inr (14, [.ref ed, .int 22, .int (mo + 1)])), (ed, .inl (cO, 22, .inr (.inr (.inr (.inr f)))))] ++ fz) H := hP
      have hD : va_D A ([(x, .inr (14, [.ref ed, .int 22, .int (mo + 1)])), (ed, .inl (cO, 22, .inr (.inr (.inr (.inr f)))))] ++ fz) := hD
      refine lv_aload_n hx hb d_AL_add_10 rfl (lv_at hl 0 rfl) ?_
      refine lv_aload_n hx hb d_AL_add_11 rfl (lv_at hl 1 rfl) ?_
      refine lv_aload_n hx hb d_AL_add_12 rfl (lv_at hl 0 rfl) ?_
      refine va_get (D := (dC, dI)) (ci := 14) (v := .ref ed) (C := R_AL) (T := T_AL) (N := 3) hx hb htb in_AL hown hK hP 0 rfl rfl 0 (by decide) (htb _ m_87) (fun _ h9 => h9) rfl d_AL_add_13 ?_
      refine lv_aload_n hx hb d_AL_add_16 rfl (lv_at hl 0 rfl) ?_
      refine va_get (D := (dC, dI)) (ci := 14) (v := .int 22) (C := R_AL) (T := T_AL) (N := 3) hx hb htb in_AL hown hK hP 0 rfl rfl 1 (by decide) (htb _ m_88) (fun _ h9 => h9) rfl d_AL_add_17 ?_
      have hPc := zz_pickP (pre := [(x, .inr (14, [.ref ed, .int 22, .int (mo + 1)])), (ed, .inl (cO, 22, .inr (.inr (.inr (.inr f)))))]) (fz := fz) (wc := [(x, .inr (14, [.ref ed, .int 22, .int (mo + 1)])), (ed, .inl (cO, 22, .inr (.inr (.inr (.inr f)))))]) hP [0, 1] rfl
      have hDc := zz_pickD (pre := [(x, .inr (14, [.ref ed, .int 22, .int (mo + 1)])), (ed, .inl (cO, 22, .inr (.inr (.inr (.inr f)))))]) (fz := fz) (wc := [(x, .inr (14, [.ref ed, .int 22, .int (mo + 1)])), (ed, .inl (cO, 22, .inr (.inr (.inr (.inr f)))))]) hD [0, 1] (by decide) rfl
      have hFc := zz_free (pre := [(x, .inr (14, [.ref ed, .int 22, .int (mo + 1)])), (ed, .inl (cO, 22, .inr (.inr (.inr (.inr f)))))]) (fz := fz) (wc := [(x, .inr (14, [.ref ed, .int 22, .int (mo + 1)])), (ed, .inl (cO, 22, .inr (.inr (.inr (.inr f)))))]) hD hS hA [0, 1] rfl
      have hKc := hK.sub (tys' := [(cO, .object "java/lang/Object")]) [0] rfl
      refine va_callv (va_runV (As := [.ref v, .ref ed, .int 22]) (rest := []) ⟨hx, hb, hml, hown, htb⟩ (k_AL_add2_22 l dC dI _ x (mo + 1) ed cO f ci em aK aV v fz hci (al_el hcn hf hel) hv) (cwV 3 htb (g_V (fun _ h => h) m_529 m_526 m_528 m_1630 m_8) rfl rfl rfl (by decide +kernel) ⟨Nat.le_of_ble_eq_true rfl, Nat.le_of_ble_eq_true rfl⟩) ⟨fun a U g mk q => by obtain ⟨q0, q1, qP, qK, qD, z0⟩ := q; exact ⟨q0, q1, qP, va_K.moved (u := U) (U := U.calling g mk a) (Vm.Alike.refl U.vm) qK, qD, EX.same (U := U) (U' := U.calling g mk a) rfl z0⟩, va_recv hK hP (ci := 14) rfl (q0 := 0) rfl, fun U hU hW => ⟨rfl, by rw [hU], by rw [hU]; exact hPc, va_K.moved hW.alike hKc, hDc.weaken (fun _ _ _ _ => trivial), by rw [hU]; exact EX.warm hW ((hE.kept (fun a h1 h2 => hS.2.1 a h1 h2)).narrow hFc)⟩⟩ rfl rfl hl.1 rfl (lv_room (Nat.le_of_ble_eq_true rfl)) d_AL_add_20 ⟨(by show 1 ≤ (acl (xs.length + 1) - acl xs.length); first | exact Nat.zero_le _ | (rw [hcn]; decide)), (by show 33 ≤ (asl (xs.length + 1) - asl xs.length); first | exact Nat.zero_le _ | (rw [hcn]; decide))⟩) hS (fun q _ h => hFc q h) hFc (fun u1 t H1 locs ht hvm hw3 hB hz1 hk1 hS => ?_)
      obtain ⟨x5, hP1, hK1, hD1⟩ := hB
      rw [ht] at hP1
      have hK1 := va_K.moved hvm.symm hK1
      have hw3 : True := hw3
      obtain ⟨hP, hD⟩ := zz_join (pre := [(x, .inr (14, [.ref ed, .int 22, .int (mo + 1)])), (ed, .inl (cO, 22, .inr (.inr (.inr (.inr f)))))]) (fz := fz) (wc := [(x, .inr (14, [.ref ed, .int 22, .int (mo + 1)])), (ed, .inl (cO, 22, .inr (.inr (.inr (.inr f)))))]) (wr := []) (w1 := ([(x, .inr (14, [.ref x5, .int 23, .int (mo + 1)])), (x5, .inl (cO, 33, .inr (.inr (.inr (.inr (va_up (va_cpy f (fun _ => none) 0 0 22) 22 (some v)))))))] ++ fz)) hP hD [0, 1] [] rfl rfl (by decide) (by decide) hk1 hFc hP1 hD1
      have hK := (hK.sub (tys' := []) [] rfl).app hK1
      generalize H1 = H at hP hS ⊢
      have hP : va_P (dC, dI) vwCl ([(x, .inr (14, [.ref x5, .int 23, .int (mo + 1)])), (x5, .inl (cO, 33, .inr (.inr (.inr (.inr (va_up (va_cpy f (fun _ => none) 0 0 22) 22 (some v)))))))] ++ fz) H := hP
      have hD : va_D A ([(x, .inr (14, [.ref x5, .int 23, .int (mo + 1)])), (x5, .inl (cO, 33, .inr (.inr (.inr (.inr (va_up (va_cpy f (fun _ => none) 0 0 22) 22 (some v)))))))] ++ fz) := hD
      have hK : va_K (dC, dI) vwCl [(cO, .object "java/lang/Object")] s := hK
      refine W.widen (k := 1) (n := 33) (Nat.le_of_ble_eq_true rfl) (Nat.le_of_ble_eq_true rfl) ?_
      refine lv_iconst (v := 1) hx hb d_AL_add_23 (by decide) ?_
      have hP9 := zz_pickP (pre := [(x, .inr (14, [.ref x5, .int 23, .int (mo + 1)])), (x5, .inl (cO, 33, .inr (.inr (.inr (.inr (va_up (va_cpy f (fun _ => none) 0 0 22) 22 (some v)))))))]) (fz := fz) (wc := [(x, .inr (14, [.ref x5, .int 23, .int (mo + 1)])), (x5, .inl (cO, 33, .inr (.inr (.inr (.inr (va_up (va_cpy f (fun _ => none) 0 0 22) 22 (some v)))))))]) hP [0, 1] rfl
      have hD9 := zz_pickD (pre := [(x, .inr (14, [.ref x5, .int 23, .int (mo + 1)])), (x5, .inl (cO, 33, .inr (.inr (.inr (.inr (va_up (va_cpy f (fun _ => none) 0 0 22) 22 (some v)))))))]) (fz := fz) (wc := [(x, .inr (14, [.ref x5, .int 23, .int (mo + 1)])), (x5, .inl (cO, 33, .inr (.inr (.inr (.inr (va_up (va_cpy f (fun _ => none) 0 0 22) 22 (some v)))))))]) hD [0, 1] (by decide) rfl
      have hK9 := hK.sub (tys' := [(cO, .object "java/lang/Object")]) [0] rfl
      refine W.widen (k := (acl (xs.length + 1) - acl xs.length)) (n := (asl (xs.length + 1) - asl xs.length)) ((by show 1 ≤ (acl (xs.length + 1) - acl xs.length); first | exact Nat.zero_le _ | (rw [hcn]; decide))) ((by show 33 ≤ (asl (xs.length + 1) - asl xs.length); first | exact Nat.zero_le _ | (rw [hcn]; decide))) ?_
      exact W.zret (v := 1) hx hb hr (by decide) (fun t ht hW => ⟨⟨1, [(x, .inr (14, [.ref x5, .int 23, .int (mo + 1)])), (x5, .inl (cO, 33, .inr (.inr (.inr (.inr (va_up (va_cpy f (fun _ => none) 0 0 22) 22 (some v)))))))], rfl, Or.inr ⟨22, _, x5, _, by simp [hcn], by decide, rfl, al_none (cap := 33) hcn hf⟩, ⟨by rw [ht]; exact hP9, va_K.moved hW.alike hK9, hD9⟩⟩, hS.F ht⟩) hS.2.2 d_AL_add_24
    · obtain rfl : k = 32 := by omega
      have hcn : xs.length = 33 := hk
      have hP : va_P (dC, dI) vwCl ([(x, .inr (14, [.ref ed, .int 33, .int mo])), (ed, .inl (cO, 33, .inr (.inr (.inr (.inr f)))))] ++ fz) s.heap := hP
      have hD : va_D A ([(x, .inr (14, [.ref ed, .int 33, .int mo])), (ed, .inl (cO, 33, .inr (.inr (.inr (.inr f)))))] ++ fz) := hD
      refine lv_aload_n hx hb d_AL_add_0 rfl (lv_at hl 0 rfl) ?_
      refine lv_dup hx hb d_AL_add_1 rfl ?_
      refine va_get (D := (dC, dI)) (ci := 14) (v := .int mo) (C := R_AL) (T := T_AL) (N := 3) hx hb htb in_AL hown hK hP 0 rfl rfl 2 (by decide) (htb _ m_90) (fun x9 h9 => u_same (htb _ m_91) x9 h9) rfl d_AL_add_2 ?_
      refine lv_iconst (v := 1) hx hb d_AL_add_5 (by decide) ?_
      refine lv_iadd hx hb d_AL_add_6 ?_
      refine va_put (D := (dC, dI)) (ci := 14) (v := .int (mo + 1)) (ty := .int) (C := R_AL) (T := T_AL) (N := 3) hx hb htb in_AL ty_AL ty_AL_ok nm_AL hown hK hP hD hS 0 rfl rfl 2 (by decide) (htb _ m_90) (fun x9 h9 => u_same (htb _ m_91) x9 h9) rfl (by decide +kernel) rfl rfl (Nat.le_of_ble_eq_true rfl) d_AL_add_7 (fun H locs hP hD hS => ?_)
      have hP : va_P (dC, dI) vwCl ([(x, .inr (14, [.ref ed, .int 33, .int (mo + 1)])), (ed, .inl (cO, 33, .inr (.inr (.inr (.inr f)))))] ++ fz) H := hP
      have hD : va_D A ([(x, .inr (14, [.ref ed, .int 33, .int (mo + 1)])), (ed, .inl (cO, 33, .inr (.inr (.inr (.inr f)))))] ++ fz) := hD
      refine lv_aload_n hx hb d_AL_add_10 rfl (lv_at hl 0 rfl) ?_
      refine lv_aload_n hx hb d_AL_add_11 rfl (lv_at hl 1 rfl) ?_
      refine lv_aload_n hx hb d_AL_add_12 rfl (lv_at hl 0 rfl) ?_
      refine va_get (D := (dC, dI)) (ci := 14) (v := .ref ed) (C := R_AL) (T := T_AL) (N := 3) hx hb htb in_AL hown hK hP 0 rfl rfl 0 (by decide) (htb _ m_87) (fun _ h9 => h9) rfl d_AL_add_13 ?_
      refine lv_aload_n hx hb d_AL_add_16 rfl (lv_at hl 0 rfl) ?_
      refine va_get (D := (dC, dI)) (ci := 14) (v := .int 33) (C := R_AL) (T := T_AL) (N := 3) hx hb htb in_AL hown hK hP 0 rfl rfl 1 (by decide) (htb _ m_88) (fun _ h9 => h9) rfl d_AL_add_17 ?_
      have hPc := zz_pickP (pre := [(x, .inr (14, [.ref ed, .int 33, .int (mo + 1)])), (ed, .inl (cO, 33, .inr (.inr (.inr (.inr f)))))]) (fz := fz) (wc := [(x, .inr (14, [.ref ed, .int 33, .int (mo + 1)])), (ed, .inl (cO, 33, .inr (.inr (.inr (.inr f)))))]) hP [0, 1] rfl
      have hDc := zz_pickD (pre := [(x, .inr (14, [.ref ed, .int 33, .int (mo + 1)])), (ed, .inl (cO, 33, .inr (.inr (.inr (.inr f)))))]) (fz := fz) (wc := [(x, .inr (14, [.ref ed, .int 33, .int (mo + 1)])), (ed, .inl (cO, 33, .inr (.inr (.inr (.inr f)))))]) hD [0, 1] (by decide) rfl
      have hFc := zz_free (pre := [(x, .inr (14, [.ref ed, .int 33, .int (mo + 1)])), (ed, .inl (cO, 33, .inr (.inr (.inr (.inr f)))))]) (fz := fz) (wc := [(x, .inr (14, [.ref ed, .int 33, .int (mo + 1)])), (ed, .inl (cO, 33, .inr (.inr (.inr (.inr f)))))]) hD hS hA [0, 1] rfl
      have hKc := hK.sub (tys' := [(cO, .object "java/lang/Object")]) [0] rfl
      refine va_callv (va_runV (As := [.ref v, .ref ed, .int 33]) (rest := []) ⟨hx, hb, hml, hown, htb⟩ (k_AL_add2_33 l dC dI _ x (mo + 1) ed cO f ci em aK aV v fz hci (al_el hcn hf hel) hv) (cwV 3 htb (g_V (fun _ h => h) m_529 m_526 m_528 m_1630 m_8) rfl rfl rfl (by decide +kernel) ⟨Nat.le_of_ble_eq_true rfl, Nat.le_of_ble_eq_true rfl⟩) ⟨fun a U g mk q => by obtain ⟨q0, q1, qP, qK, qD, z0⟩ := q; exact ⟨q0, q1, qP, va_K.moved (u := U) (U := U.calling g mk a) (Vm.Alike.refl U.vm) qK, qD, EX.same (U := U) (U' := U.calling g mk a) rfl z0⟩, va_recv hK hP (ci := 14) rfl (q0 := 0) rfl, fun U hU hW => ⟨rfl, by rw [hU], by rw [hU]; exact hPc, va_K.moved hW.alike hKc, hDc.weaken (fun _ _ _ _ => trivial), by rw [hU]; exact EX.warm hW ((hE.kept (fun a h1 h2 => hS.2.1 a h1 h2)).narrow hFc)⟩⟩ rfl rfl hl.1 rfl (lv_room (Nat.le_of_ble_eq_true rfl)) d_AL_add_20 ⟨(by show 1 ≤ (acl (xs.length + 1) - acl xs.length); first | exact Nat.zero_le _ | (rw [hcn]; decide)), (by show 49 ≤ (asl (xs.length + 1) - asl xs.length); first | exact Nat.zero_le _ | (rw [hcn]; decide))⟩) hS (fun q _ h => hFc q h) hFc (fun u1 t H1 locs ht hvm hw3 hB hz1 hk1 hS => ?_)
      obtain ⟨x5, hP1, hK1, hD1⟩ := hB
      rw [ht] at hP1
      have hK1 := va_K.moved hvm.symm hK1
      have hw3 : True := hw3
      obtain ⟨hP, hD⟩ := zz_join (pre := [(x, .inr (14, [.ref ed, .int 33, .int (mo + 1)])), (ed, .inl (cO, 33, .inr (.inr (.inr (.inr f)))))]) (fz := fz) (wc := [(x, .inr (14, [.ref ed, .int 33, .int (mo + 1)])), (ed, .inl (cO, 33, .inr (.inr (.inr (.inr f)))))]) (wr := []) (w1 := ([(x, .inr (14, [.ref x5, .int 34, .int (mo + 1)])), (x5, .inl (cO, 49, .inr (.inr (.inr (.inr (va_up (va_cpy f (fun _ => none) 0 0 33) 33 (some v)))))))] ++ fz)) hP hD [0, 1] [] rfl rfl (by decide) (by decide) hk1 hFc hP1 hD1
      have hK := (hK.sub (tys' := []) [] rfl).app hK1
      generalize H1 = H at hP hS ⊢
      have hP : va_P (dC, dI) vwCl ([(x, .inr (14, [.ref x5, .int 34, .int (mo + 1)])), (x5, .inl (cO, 49, .inr (.inr (.inr (.inr (va_up (va_cpy f (fun _ => none) 0 0 33) 33 (some v)))))))] ++ fz) H := hP
      have hD : va_D A ([(x, .inr (14, [.ref x5, .int 34, .int (mo + 1)])), (x5, .inl (cO, 49, .inr (.inr (.inr (.inr (va_up (va_cpy f (fun _ => none) 0 0 33) 33 (some v)))))))] ++ fz) := hD
      have hK : va_K (dC, dI) vwCl [(cO, .object "java/lang/Object")] s := hK
      refine W.widen (k := 1) (n := 49) (Nat.le_of_ble_eq_true rfl) (Nat.le_of_ble_eq_true rfl) ?_
      refine lv_iconst (v := 1) hx hb d_AL_add_23 (by decide) ?_
      have hP9 := zz_pickP (pre := [(x, .inr (14, [.ref x5, .int 34, .int (mo + 1)])), (x5, .inl (cO, 49, .inr (.inr (.inr (.inr (va_up (va_cpy f (fun _ => none) 0 0 33) 33 (some v)))))))]) (fz := fz) (wc := [(x, .inr (14, [.ref x5, .int 34, .int (mo + 1)])), (x5, .inl (cO, 49, .inr (.inr (.inr (.inr (va_up (va_cpy f (fun _ => none) 0 0 33) 33 (some v)))))))]) hP [0, 1] rfl
      have hD9 := zz_pickD (pre := [(x, .inr (14, [.ref x5, .int 34, .int (mo + 1)])), (x5, .inl (cO, 49, .inr (.inr (.inr (.inr (va_up (va_cpy f (fun _ => none) 0 0 33) 33 (some v)))))))]) (fz := fz) (wc := [(x, .inr (14, [.ref x5, .int 34, .int (mo + 1)])), (x5, .inl (cO, 49, .inr (.inr (.inr (.inr (va_up (va_cpy f (fun _ => none) 0 0 33) 33 (some v)))))))]) hD [0, 1] (by decide) rfl
      have hK9 := hK.sub (tys' := [(cO, .object "java/lang/Object")]) [0] rfl
      refine W.widen (k := (acl (xs.length + 1) - acl xs.length)) (n := (asl (xs.length + 1) - asl xs.length)) ((by show 1 ≤ (acl (xs.length + 1) - acl xs.length); first | exact Nat.zero_le _ | (rw [hcn]; decide))) ((by show 49 ≤ (asl (xs.length + 1) - asl xs.length); first | exact Nat.zero_le _ | (rw [hcn]; decide))) ?_
      exact W.zret (v := 1) hx hb hr (by decide) (fun t ht hW => ⟨⟨1, [(x, .inr (14, [.ref x5, .int 34, .int (mo + 1)])), (x5, .inl (cO, 49, .inr (.inr (.inr (.inr (va_up (va_cpy f (fun _ => none) 0 0 33) 33 (some v)))))))], rfl, Or.inr ⟨33, _, x5, _, by simp [hcn], by decide, rfl, al_none (cap := 49) hcn hf⟩, ⟨by rw [ht]; exact hP9, va_K.moved hW.alike hK9, hD9⟩⟩, hS.F ht⟩) hS.2.2 d_AL_add_24
    · obtain rfl : k = 48 := by omega
      have hcn : xs.length = 49 := hk
      have hP : va_P (dC, dI) vwCl ([(x, .inr (14, [.ref ed, .int 49, .int mo])), (ed, .inl (cO, 49, .inr (.inr (.inr (.inr f)))))] ++ fz) s.heap := hP
      have hD : va_D A ([(x, .inr (14, [.ref ed, .int 49, .int mo])), (ed, .inl (cO, 49, .inr (.inr (.inr (.inr f)))))] ++ fz) := hD
      refine lv_aload_n hx hb d_AL_add_0 rfl (lv_at hl 0 rfl) ?_
      refine lv_dup hx hb d_AL_add_1 rfl ?_
      refine va_get (D := (dC, dI)) (ci := 14) (v := .int mo) (C := R_AL) (T := T_AL) (N := 3) hx hb htb in_AL hown hK hP 0 rfl rfl 2 (by decide) (htb _ m_90) (fun x9 h9 => u_same (htb _ m_91) x9 h9) rfl d_AL_add_2 ?_
      refine lv_iconst (v := 1) hx hb d_AL_add_5 (by decide) ?_
      refine lv_iadd hx hb d_AL_add_6 ?_
      refine va_put (D := (dC, dI)) (ci := 14) (v := .int (mo + 1)) (ty := .int) (C := R_AL) (T := T_AL) (N := 3) hx hb htb in_AL ty_AL ty_AL_ok nm_AL hown hK hP hD hS 0 rfl rfl 2 (by decide) (htb _ m_90) (fun x9 h9 => u_same (htb _ m_91) x9 h9) rfl (by decide +kernel) rfl rfl (Nat.le_of_ble_eq_true rfl) d_AL_add_7 (fun H locs hP hD hS => ?_)
      have hP : va_P (dC, dI) vwCl ([(x, .inr (14, [.ref ed, .int 49, .int (mo + 1)])), (ed, .inl (cO, 49, .inr (.inr (.inr (.inr f)))))] ++ fz) H := hP
      have hD : va_D A ([(x, .inr (14, [.ref ed, .int 49, .int (mo + 1)])), (ed, .inl (cO, 49, .inr (.inr (.inr (.inr f)))))] ++ fz) := hD
      refine lv_aload_n hx hb d_AL_add_10 rfl (lv_at hl 0 rfl) ?_
      refine lv_aload_n hx hb d_AL_add_11 rfl (lv_at hl 1 rfl) ?_
      refine lv_aload_n hx hb d_AL_add_12 rfl (lv_at hl 0 rfl) ?_
      refine va_get (D := (dC, dI)) (ci := 14) (v := .ref ed) (C := R_AL) (T := T_AL) (N := 3) hx hb htb in_AL hown hK hP 0 rfl rfl 0 (by decide) (htb _ m_87) (fun _ h9 => h9) rfl d_AL_add_13 ?_
      refine lv_aload_n hx hb d_AL_add_16 rfl (lv_at hl 0 rfl) ?_
      refine va_get (D := (dC, dI)) (ci := 14) (v := .int 49) (C := R_AL) (T := T_AL) (N := 3) hx hb htb in_AL hown hK hP 0 rfl rfl 1 (by decide) (htb _ m_88) (fun _ h9 => h9) rfl d_AL_add_17 ?_
      have hPc := zz_pickP (pre := [(x, .inr (14, [.ref ed, .int 49, .int (mo + 1)])), (ed, .inl (cO, 49, .inr (.inr (.inr (.inr f)))))]) (fz := fz) (wc := [(x, .inr (14, [.ref ed, .int 49, .int (mo + 1)])), (ed, .inl (cO, 49, .inr (.inr (.inr (.inr f)))))]) hP [0, 1] rfl
      have hDc := zz_pickD (pre := [(x, .inr (14, [.ref ed, .int 49, .int (mo + 1)])), (ed, .inl (cO, 49, .inr (.inr (.inr (.inr f)))))]) (fz := fz) (wc := [(x, .inr (14, [.ref ed, .int 49, .int (mo + 1)])), (ed, .inl (cO, 49, .inr (.inr (.inr (.inr f)))))]) hD [0, 1] (by decide) rfl
      have hFc := zz_free (pre := [(x, .inr (14, [.ref ed, .int 49, .int (mo + 1)])), (ed, .inl (cO, 49, .inr (.inr (.inr (.inr f)))))]) (fz := fz) (wc := [(x, .inr (14, [.ref ed, .int 49, .int (mo + 1)])), (ed, .inl (cO, 49, .inr (.inr (.inr (.inr f)))))]) hD hS hA [0, 1] rfl
      have hKc := hK.sub (tys' := [(cO, .object "java/lang/Object")]) [0] rfl
      refine va_callv (va_runV (As := [.ref v, .ref ed, .int 49]) (rest := []) ⟨hx, hb, hml, hown, htb⟩ (k_AL_add2_49 l dC dI _ x (mo + 1) ed cO f ci em aK aV v fz hci (al_el hcn hf hel) hv) (cwV 3 htb (g_V (fun _ h => h) m_529 m_526 m_528 m_1630 m_8) rfl rfl rfl (by decide +kernel) ⟨Nat.le_of_ble_eq_true rfl, Nat.le_of_ble_eq_true rfl⟩) ⟨fun a U g mk q => by obtain ⟨q0, q1, qP, qK, qD, z0⟩ := q; exact ⟨q0, q1, qP, va_K.moved (u := U) (U := U.calling g mk a) (Vm.Alike.refl U.vm) qK, qD, EX.same (U := U) (U' := U.calling g mk a) rfl z0⟩, va_recv hK hP (ci := 14) rfl (q0 := 0) rfl, fun U hU hW => ⟨rfl, by rw [hU], by rw [hU]; exact hPc, va_K.moved hW.alike hKc, hDc.weaken (fun _ _ _ _ => trivial), by rw [hU]; exact EX.warm hW ((hE.kept (fun a h1 h2 => hS.2.1 a h1 h2)).narrow hFc)⟩⟩ rfl rfl hl.1 rfl (lv_room (Nat.le_of_ble_eq_true rfl)) d_AL_add_20 ⟨(by show 1 ≤ (acl (xs.length + 1) - acl xs.length); first | exact Nat.zero_le _ | (rw [hcn]; decide)), (by show 73 ≤ (asl (xs.length + 1) - asl xs.length); first | exact Nat.zero_le _ | (rw [hcn]; decide))⟩) hS (fun q _ h => hFc q h) hFc (fun u1 t H1 locs ht hvm hw3 hB hz1 hk1 hS => ?_)
      obtain ⟨x5, hP1, hK1, hD1⟩ := hB
      rw [ht] at hP1
      have hK1 := va_K.moved hvm.symm hK1
      have hw3 : True := hw3
      obtain ⟨hP, hD⟩ := zz_join (pre := [(x, .inr (14, [.ref ed, .int 49, .int (mo + 1)])), (ed, .inl (cO, 49, .inr (.inr (.inr (.inr f)))))]) (fz := fz) (wc := [(x, .inr (14, [.ref ed, .int 49, .int (mo + 1)])), (ed, .inl (cO, 49, .inr (.inr (.inr (.inr f)))))]) (wr := []) (w1 := ([(x, .inr (14, [.ref x5, .int 50, .int (mo + 1)])), (x5, .inl (cO, 73, .inr (.inr (.inr (.inr (va_up (va_cpy f (fun _ => none) 0 0 49) 49 (some v)))))))] ++ fz)) hP hD [0, 1] [] rfl rfl (by decide) (by decide) hk1 hFc hP1 hD1
      have hK := (hK.sub (tys' := []) [] rfl).app hK1
      generalize H1 = H at hP hS ⊢
      have hP : va_P (dC, dI) vwCl ([(x, .inr (14, [.ref x5, .int 50, .int (mo + 1)])), (x5, .inl (cO, 73, .inr (.inr (.inr (.inr (va_up (va_cpy f (fun _ => none) 0 0 49) 49 (some v)))))))] ++ fz) H := hP
      have hD : va_D A ([(x, .inr (14, [.ref x5, .int 50, .int (mo + 1)])), (x5, .inl (cO, 73, .inr (.inr (.inr (.inr (va_up (va_cpy f (fun _ => none) 0 0 49) 49 (some v)))))))] ++ fz) := hD
      have hK : va_K (dC, dI) vwCl [(cO, .object "java/lang/Object")] s := hK
      refine W.widen (k := 1) (n := 73) (Nat.le_of_ble_eq_true rfl) (Nat.le_of_ble_eq_true rfl) ?_
      refine lv_iconst (v := 1) hx hb d_AL_add_23 (by decide) ?_
      have hP9 := zz_pickP (pre := [(x, .inr (14, [.ref x5, .int 50, .int (mo + 1)])), (x5, .inl (cO, 73, .inr (.inr (.inr (.inr (va_up (va_cpy f (fun _ => none) 0 0 49) 49 (some v)))))))]) (fz := fz) (wc := [(x, .inr (14, [.ref x5, .int 50, .int (mo + 1)])), (x5, .inl (cO, 73, .inr (.inr (.inr (.inr (va_up (va_cpy f (fun _ => none) 0 0 49) 49 (some v)))))))]) hP [0, 1] rfl
      have hD9 := zz_pickD (pre := [(x, .inr (14, [.ref x5, .int 50, .int (mo + 1)])), (x5, .inl (cO, 73, .inr (.inr (.inr (.inr (va_up (va_cpy f (fun _ => none) 0 0 49) 49 (some v)))))))]) (fz := fz) (wc := [(x, .inr (14, [.ref x5, .int 50, .int (mo + 1)])), (x5, .inl (cO, 73, .inr (.inr (.inr (.inr (va_up (va_cpy f (fun _ => none) 0 0 49) 49 (some v)))))))]) hD [0, 1] (by decide) rfl
      have hK9 := hK.sub (tys' := [(cO, .object "java/lang/Object")]) [0] rfl
      refine W.widen (k := (acl (xs.length + 1) - acl xs.length)) (n := (asl (xs.length + 1) - asl xs.length)) ((by show 1 ≤ (acl (xs.length + 1) - acl xs.length); first | exact Nat.zero_le _ | (rw [hcn]; decide))) ((by show 73 ≤ (asl (xs.length + 1) - asl xs.length); first | exact Nat.zero_le _ | (rw [hcn]; decide))) ?_
      exact W.zret (v := 1) hx hb hr (by decide) (fun t ht hW => ⟨⟨1, [(x, .inr (14, [.ref x5, .int 50, .int (mo + 1)])), (x5, .inl (cO, 73, .inr (.inr (.inr (.inr (va_up (va_cpy f (fun _ => none) 0 0 49) 49 (some v)))))))], rfl, Or.inr ⟨49, _, x5, _, by simp [hcn], by decide, rfl, al_none (cap := 73) hcn hf⟩, ⟨by rw [ht]; exact hP9, va_K.moved hW.alike hK9, hD9⟩⟩, hS.F ht⟩) hS.2.2 d_AL_add_24
    · obtain rfl : k = 72 := by omega
      have hcn : xs.length = 73 := hk
      have hP : va_P (dC, dI) vwCl ([(x, .inr (14, [.ref ed, .int 73, .int mo])), (ed, .inl (cO, 73, .inr (.inr (.inr (.inr f)))))] ++ fz) s.heap := hP
      have hD : va_D A ([(x, .inr (14, [.ref ed, .int 73, .int mo])), (ed, .inl (cO, 73, .inr (.inr (.inr (.inr f)))))] ++ fz) := hD
      refine lv_aload_n hx hb d_AL_add_0 rfl (lv_at hl 0 rfl) ?_
      refine lv_dup hx hb d_AL_add_1 rfl ?_
      refine va_get (D := (dC, dI)) (ci := 14) (v := .int mo) (C := R_AL) (T := T_AL) (N := 3) hx hb htb in_AL hown hK hP 0 rfl rfl 2 (by decide) (htb _ m_90) (fun x9 h9 => u_same (htb _ m_91) x9 h9) rfl d_AL_add_2 ?_
      refine lv_iconst (v := 1) hx hb d_AL_add_5 (by decide) ?_
      refine lv_iadd hx hb d_AL_add_6 ?_
      refine va_put (D := (dC, dI)) (ci := 14) (v := .int (mo + 1)) (ty := .int) (C := R_AL) (T := T_AL) (N := 3) hx hb htb in_AL ty_AL ty_AL_ok nm_AL hown hK hP hD hS 0 rfl rfl 2 (by decide) (htb _ m_90) (fun x9 h9 => u_same (htb _ m_91) x9 h9) rfl (by decide +kernel) rfl rfl (Nat.le_of_ble_eq_true rfl) d_AL_add_7 (fun H locs hP hD hS => ?_)
      have hP : va_P (dC, dI) vwCl ([(x, .inr (14, [.ref ed, .int 73, .int (mo + 1)])), (ed, .inl (cO, 73, .inr (.inr (.inr (.inr f)))))] ++ fz) H := hP
      have hD : va_D A ([(x, .inr (14, [.ref ed, .int 73, .int (mo + 1)])), (ed, .inl (cO, 73, .inr (.inr (.inr (.inr f)))))] ++ fz) := hD
      refine lv_aload_n hx hb d_AL_add_10 rfl (lv_at hl 0 rfl) ?_
      refine lv_aload_n hx hb d_AL_add_11 rfl (lv_at hl 1 rfl) ?_
      refine lv_aload_n hx hb d_AL_add_12 rfl (lv_at hl 0 rfl) ?_
      refine va_get (D := (dC, dI)) (ci := 14) (v := .ref ed) (C := R_AL) (T := T_AL) (N := 3) hx hb htb in_AL hown hK hP 0 rfl rfl 0 (by decide) (htb _ m_87) (fun _ h9 => h9) rfl d_AL_add_13 ?_
      refine lv_aload_n hx hb d_AL_add_16 rfl (lv_at hl 0 rfl) ?_
      refine va_get (D := (dC, dI)) (ci := 14) (v := .int 73) (C := R_AL) (T := T_AL) (N := 3) hx hb htb in_AL hown hK hP 0 rfl rfl 1 (by decide) (htb _ m_88) (fun _ h9 => h9) rfl d_AL_add_17 ?_
      have hPc := zz_pickP (pre := [(x, .inr (14, [.ref ed, .int 73, .int (mo + 1)])), (ed, .inl (cO, 73, .inr (.inr (.inr (.inr f)))))]) (fz := fz) (wc := [(x, .inr (14, [.ref ed, .int 73, .int (mo + 1)])), (ed, .inl (cO, 73, .inr (.inr (.inr (.inr f)))))]) hP [0, 1] rfl
      have hDc := zz_pickD (pre := [(x, .inr (14, [.ref ed, .int 73, .int (mo + 1)])), (ed, .inl (cO, 73, .inr (.inr (.inr (.inr f)))))]) (fz := fz) (wc := [(x, .inr (14, [.ref ed, .int 73, .int (mo + 1)])), (ed, .inl (cO, 73, .inr (.inr (.inr (.inr f)))))]) hD [0, 1] (by decide) rfl
      have hFc := zz_free (pre := [(x, .inr (14, [.ref ed, .int 73, .int (mo + 1)])), (ed, .inl (cO, 73, .inr (.inr (.inr (.inr f)))))]) (fz := fz) (wc := [(x, .inr (14, [.ref ed, .int 73, .int (mo + 1)])), (ed, .inl (cO, 73, .inr (.inr (.inr (.inr f)))))]) hD hS hA [0, 1] rfl
      have hKc := hK.sub (tys' := [(cO, .object "java/lang/Object")]) [0] rfl
      refine va_callv (va_runV (As := [.ref v, .ref ed, .int 73]) (rest := []) ⟨hx, hb, hml, hown, htb⟩ (k_AL_add2_73 l dC dI _ x (mo + 1) ed cO f ci em aK aV v fz hci (al_el hcn hf hel) hv) (cwV 3 htb (g_V (fun _ h => h) m_529 m_526 m_528 m_1630 m_8) rfl rfl rfl (by decide +kernel) ⟨Nat.le_of_ble_eq_true rfl, Nat.le_of_ble_eq_true rfl⟩) ⟨fun a U g mk q => by obtain ⟨q0, q1, qP, qK, qD, z0⟩ := q; exact ⟨q0, q1, qP, va_K.moved (u := U) (U := U.calling g mk a) (Vm.Alike.refl U.vm) qK, qD, EX.same (U := U) (U' := U.calling g mk a) rfl z0⟩, va_recv hK hP (ci := 14) rfl (q0 := 0) rfl, fun U hU hW => ⟨rfl, by rw [hU], by rw [hU]; exact hPc, va_K.moved hW.alike hKc, hDc.weaken (fun _ _ _ _ => trivial), by rw [hU]; exact EX.warm hW ((hE.kept (fun a h1 h2 => hS.2.1 a h1 h2)).narrow hFc)⟩⟩ rfl rfl hl.1 rfl (lv_room (Nat.le_of_ble_eq_true rfl)) d_AL_add_20 ⟨(by show 1 ≤ (acl (xs.length + 1) - acl xs.length); first | exact Nat.zero_le _ | (rw [hcn]; decide)), (by show 109 ≤ (asl (xs.length + 1) - asl xs.length); first | exact Nat.zero_le _ | (rw [hcn]; decide))⟩) hS (fun q _ h => hFc q h) hFc (fun u1 t H1 locs ht hvm hw3 hB hz1 hk1 hS => ?_)
      obtain ⟨x5, hP1, hK1, hD1⟩ := hB
      rw [ht] at hP1
      have hK1 := va_K.moved hvm.symm hK1
      have hw3 : True := hw3
      obtain ⟨hP, hD⟩ := zz_join (pre := [(x, .inr (14, [.ref ed, .int 73, .int (mo + 1)])), (ed, .inl (cO, 73, .inr (.inr (.inr (.inr f)))))]) (fz := fz) (wc := [(x, .inr (14, [.ref ed, .int 73, .int (mo + 1)])), (ed, .inl (cO, 73, .inr (.inr (.inr (.inr f)))))]) (wr := []) (w1 := ([(x, .inr (14, [.ref x5, .int 74, .int (mo + 1)])), (x5, .inl (cO, 109, .inr (.inr (.inr (.inr (va_up (va_cpy f (fun _ => none) 0 0 73) 73 (some v)))))))] ++ fz)) hP hD [0, 1] [] rfl rfl (by decide) (by decide) hk1 hFc hP1 hD1
      have hK := (hK.sub (tys' := []) [] rfl).app hK1
      generalize H1 = H at hP hS ⊢
      have hP : va_P (dC, dI) vwCl ([(x, .inr (14, [.ref x5, .int 74, .int (mo + 1)])), (x5, .inl (cO, 109, .inr (.inr (.inr (.inr (va_up (va_cpy f (fun _ => none) 0 0 73) 73 (some v)))))))] ++ fz) H := hP
      have hD : va_D A ([(x, .inr (14, [.ref x5, .int 74, .int (mo + 1)])), (x5, .inl (cO, 109, .inr (.inr (.inr (.inr (va_up (va_cpy f (fun _ => none) 0 0 73) 73 (some v)))))))] ++ fz) := hD
      have hK : va_K (dC, dI) vwCl [(cO, .object "java/lang/Object")] s := hK
      refine W.widen (k := 1) (n := 109) (Nat.le_of_ble_eq_true rfl) (Nat.le_of_ble_eq_true rfl) ?_
      refine lv_iconst (v := 1) hx hb d_AL_add_23 (by decide) ?_
      have hP9 := zz_pickP (pre := [(x, .inr (14, [.ref x5, .int 74, .int (mo + 1)])), (x5, .inl (cO, 109, .inr (.inr (.inr (.inr (va_up (va_cpy f (fun _ => none) 0 0 73) 73 (some v)))))))]) (fz := fz) (wc := [(x, .inr (14, [.ref x5, .int 74, .int (mo + 1)])), (x5, .inl (cO, 109, .inr (.inr (.inr (.inr (va_up (va_cpy f (fun _ => none) 0 0 73) 73 (some v)))))))]) hP [0, 1] rfl
      have hD9 := zz_pickD (pre := [(x, .inr (14, [.ref x5, .int 74, .int (mo + 1)])), (x5, .inl (cO, 109, .inr (.inr (.inr (.inr (va_up (va_cpy f (fun _ => none) 0 0 73) 73 (some v)))))))]) (fz := fz) (wc := [(x, .inr (14, [.ref x5, .int 74, .int (mo + 1)])), (x5, .inl (cO, 109, .inr (.inr (.inr (.inr (va_up (va_cpy f (fun _ => none) 0 0 73) 73 (some v)))))))]) hD [0, 1] (by decide) rfl
      have hK9 := hK.sub (tys' := [(cO, .object "java/lang/Object")]) [0] rfl
      refine W.widen (k := (acl (xs.length + 1) - acl xs.length)) (n := (asl (xs.length + 1) - asl xs.length)) ((by show 1 ≤ (acl (xs.length + 1) - acl xs.length); first | exact Nat.zero_le _ | (rw [hcn]; decide))) ((by show 109 ≤ (asl (xs.length + 1) - asl xs.length); first | exact Nat.zero_le _ | (rw [hcn]; decide))) ?_
      exact W.zret (v := 1) hx hb hr (by decide) (fun t ht hW => ⟨⟨1, [(x, .inr (14, [.ref x5, .int 74, .int (mo + 1)])), (x5, .inl (cO, 109, .inr (.inr (.inr (.inr (va_up (va_cpy f (fun _ => none) 0 0 73) 73 (some v)))))))], rfl, Or.inr ⟨73, _, x5, _, by simp [hcn], by decide, rfl, al_none (cap := 109) hcn hf⟩, ⟨by rw [ht]; exact hP9, va_K.moved hW.alike hK9, hD9⟩⟩, hS.F ht⟩) hS.2.2 d_AL_add_24
    · obtain rfl : k = 108 := by omega
      have hcn : xs.length = 109 := hk
      have hP : va_P (dC, dI) vwCl ([(x, .inr (14, [.ref ed, .int 109, .int mo])), (ed, .inl (cO, 109, .inr (.inr (.inr (.inr f)))))] ++ fz) s.heap := hP
      have hD : va_D A ([(x, .inr (14, [.ref ed, .int 109, .int mo])), (ed, .inl (cO, 109, .inr (.inr (.inr (.inr f)))))] ++ fz) := hD
      refine lv_aload_n hx hb d_AL_add_0 rfl (lv_at hl 0 rfl) ?_
      refine lv_dup hx hb d_AL_add_1 rfl ?_
      refine va_get (D := (dC, dI)) (ci := 14) (v := .int mo) (C := R_AL) (T := T_AL) (N := 3) hx hb htb in_AL hown hK hP 0 rfl rfl 2 (by decide) (htb _ m_90) (fun x9 h9 => u_same (htb _ m_91) x9 h9) rfl d_AL_add_2 ?_
      refine lv_iconst (v := 1) hx hb d_AL_add_5 (by decide) ?_
      refine lv_iadd hx hb d_AL_add_6 ?_
      refine va_put (D := (dC, dI)) (ci := 14) (v := .int (mo + 1)) (ty := .int) (C := R_AL) (T := T_AL) (N := 3) hx hb htb in_AL ty_AL ty_AL_ok nm_AL hown hK hP hD hS 0 rfl rfl 2 (by decide) (htb _ m_90) (fun x9 h9 => u_same (htb _ m_91) x9 h9) rfl (by decide +kernel) rfl rfl (Nat.le_of_ble_eq_true rfl) d_AL_add_7 (fun H locs hP hD hS => ?_)
      have hP : va_P (dC, dI) vwCl ([(x, .inr (14, [.ref ed, .int 109, .int (mo + 1)])), (ed, .inl (cO, 109, .inr (.inr (.inr (.inr f)))))] ++ fz) H := hP
      have hD : va_D A ([(x, .inr (14, [.ref ed, .int 109, .int (mo + 1)])), (ed, .inl (cO, 109, .inr (.inr (.inr (.inr f)))))] ++ fz) := hD
      refine lv_aload_n hx hb d_AL_add_10 rfl (lv_at hl 0 rfl) ?_
      refine lv_aload_n hx hb d_AL_add_11 rfl (lv_at hl 1 rfl) ?_
      refine lv_aload_n hx hb d_AL_add_12 rfl (lv_at hl 0 rfl) ?_
      refine va_get (D := (dC, dI)) (ci := 14) (v := .ref ed) (C := R_AL) (T := T_AL) (N := 3) hx hb htb in_AL hown hK hP 0 rfl rfl 0 (by decide) (htb _ m_87) (fun _ h9 => h9) rfl d_AL_add_13 ?_
      refine lv_aload_n hx hb d_AL_add_16 rfl (lv_at hl 0 rfl) ?_
      refine va_get (D := (dC, dI)) (ci := 14) (v := .int 109) (C := R_AL) (T := T_AL) (N := 3) hx hb htb in_AL hown hK hP 0 rfl rfl 1 (by decide) (htb _ m_88) (fun _ h9 => h9) rfl d_AL_add_17 ?_
      have hPc := zz_pickP (pre := [(x, .inr (14, [.ref ed, .int 109, .int (mo + 1)])), (ed, .inl (cO, 109, .inr (.inr (.inr (.inr f)))))]) (fz := fz) (wc := [(x, .inr (14, [.ref ed, .int 109, .int (mo + 1)])), (ed, .inl (cO, 109, .inr (.inr (.inr (.inr f)))))]) hP [0, 1] rfl
      have hDc := zz_pickD (pre := [(x, .inr (14, [.ref ed, .int 109, .int (mo + 1)])), (ed, .inl (cO, 109, .inr (.inr (.inr (.inr f)))))]) (fz := fz) (wc := [(x, .inr (14, [.ref ed, .int 109, .int (mo + 1)])), (ed, .inl (cO, 109, .inr (.inr (.inr (.inr f)))))]) hD [0, 1] (by decide) rfl
      have hFc := zz_free (pre := [(x, .inr (14, [.ref ed, .int 109, .int (mo + 1)])), (ed, .inl (cO, 109, .inr (.inr (.inr (.inr f)))))]) (fz := fz) (wc := [(x, .inr (14, [.ref ed, .int 109, .int (mo + 1)])), (ed, .inl (cO, 109, .inr (.inr (.inr (.inr f)))))]) hD hS hA [0, 1] rfl
      have hKc := hK.sub (tys' := [(cO, .object "java/lang/Object")]) [0] rfl
      refine va_callv (va_runV (As := [.ref v, .ref ed, .int 109]) (rest := []) ⟨hx, hb, hml, hown, htb⟩ (k_AL_add2_109 l dC dI _ x (mo + 1) ed cO f ci em aK aV v fz hci (al_el hcn hf hel) hv) (cwV 3 htb (g_V (fun _ h => h) m_529 m_526 m_528 m_1630 m_8) rfl rfl rfl (by decide +kernel) ⟨Nat.le_of_ble_eq_true rfl, Nat.le_of_ble_eq_true rfl⟩) ⟨fun a U g mk q => by obtain ⟨q0, q1, qP, qK, qD, z0⟩ := q; exact ⟨q0, q1, qP, va_K.moved (u := U) (U := U.calling g mk a) (Vm.Alike.refl U.vm) qK, qD, EX.same (U := U) (U' := U.calling g mk a) rfl z0⟩, va_recv hK hP (ci := 14) rfl (q0 := 0) rfl, fun U hU hW => ⟨rfl, by rw [hU], by rw [hU]; exact hPc, va_K.moved hW.alike hKc, hDc.weaken (fun _ _ _ _ => trivial), by rw [hU]; exact EX.warm hW ((hE.kept (fun a h1 h2 => hS.2.1 a h1 h2)).narrow hFc)⟩⟩ rfl rfl hl.1 rfl (lv_room (Nat.le_of_ble_eq_true rfl)) d_AL_add_20 ⟨(by show 1 ≤ (acl (xs.length + 1) - acl xs.length); first | exact Nat.zero_le _ | (rw [hcn]; decide)), (by show 163 ≤ (asl (xs.length + 1) - asl xs.length); first | exact Nat.zero_le _ | (rw [hcn]; decide))⟩) hS (fun q _ h => hFc q h) hFc (fun u1 t H1 locs ht hvm hw3 hB hz1 hk1 hS => ?_)
      obtain ⟨x5, hP1, hK1, hD1⟩ := hB
      rw [ht] at hP1
      have hK1 := va_K.moved hvm.symm hK1
      have hw3 : True := hw3
      obtain ⟨hP, hD⟩ := zz_join (pre := [(x, .inr (14, [.ref ed, .int 109, .int (mo + 1)])), (ed, .inl (cO, 109, .inr (.inr (.inr (.inr f)))))]) (fz := fz) (wc := [(x, .inr (14, [.ref ed, .int 109, .int (mo + 1)])), (ed, .inl (cO, 109, .inr (.inr (.inr (.inr f)))))]) (wr := []) (w1 := ([(x, .inr (14, [.ref x5, .int 110, .int (mo + 1)])), (x5, .inl (cO, 163, .inr (.inr (.inr (.inr (va_up (va_cpy f (fun _ => none) 0 0 109) 109 (some v)))))))] ++ fz)) hP hD [0, 1] [] rfl rfl (by decide) (by decide) hk1 hFc hP1 hD1
      have hK := (hK.sub (tys' := []) [] rfl).app hK1
      generalize H1 = H at hP hS ⊢
      have hP : va_P (dC, dI) vwCl ([(x, .inr (14, [.ref x5, .int 110, .int (mo + 1)])), (x5, .inl (cO, 163, .inr (.inr (.inr (.inr (va_up (va_cpy f (fun _ => none) 0 0 109) 109 (some v)))))))] ++ fz) H := hP
      have hD : va_D A ([(x, .inr (14, [.ref x5, .int 110, .int (mo + 1)])), (x5, .inl (cO, 163, .inr (.inr (.inr (.inr (va_up (va_cpy f (fun _ => none) 0 0 109) 109 (some v)))))))] ++ fz) := hD
      have hK : va_K (dC, dI) vwCl [(cO, .object "java/lang/Object")] s := hK
      refine W.widen (k := 1) (n := 163) (Nat.le_of_ble_eq_true rfl) (Nat.le_of_ble_eq_true rfl) ?_
      refine lv_iconst (v := 1) hx hb d_AL_add_23 (by decide) ?_
      have hP9 := zz_pickP (pre := [(x, .inr (14, [.ref x5, .int 110, .int (mo + 1)])), (x5, .inl (cO, 163, .inr (.inr (.inr (.inr (va_up (va_cpy f (fun _ => none) 0 0 109) 109 (some v)))))))]) (fz := fz) (wc := [(x, .inr (14, [.ref x5, .int 110, .int (mo + 1)])), (x5, .inl (cO, 163, .inr (.inr (.inr (.inr (va_up (va_cpy f (fun _ => none) 0 0 109) 109 (some v)))))))]) hP [0, 1] rfl
      have hD9 := zz_pickD (pre := [(x, .inr (14, [.ref x5, .int 110, .int (mo + 1)])), (x5, .inl (cO, 163, .inr (.inr (.inr (.inr (va_up (va_cpy f (fun _ => none) 0 0 109) 109 (some v)))))))]) (fz := fz) (wc := [(x, .inr (14, [.ref x5, .int 110, .int (mo + 1)])), (x5, .inl (cO, 163, .inr (.inr (.inr (.inr (va_up (va_cpy f (fun _ => none) 0 0 109) 109 (some v)))))))]) hD [0, 1] (by decide) rfl
      have hK9 := hK.sub (tys' := [(cO, .object "java/lang/Object")]) [0] rfl
      refine W.widen (k := (acl (xs.length + 1) - acl xs.length)) (n := (asl (xs.length + 1) - asl xs.length)) ((by show 1 ≤ (acl (xs.length + 1) - acl xs.length); first | exact Nat.zero_le _ | (rw [hcn]; decide))) ((by show 163 ≤ (asl (xs.length + 1) - asl xs.length); first | exact Nat.zero_le _ | (rw [hcn]; decide))) ?_
      exact W.zret (v := 1) hx hb hr (by decide) (fun t ht hW => ⟨⟨1, [(x, .inr (14, [.ref x5, .int 110, .int (mo + 1)])), (x5, .inl (cO, 163, .inr (.inr (.inr (.inr (va_up (va_cpy f (fun _ => none) 0 0 109) 109 (some v)))))))], rfl, Or.inr ⟨109, _, x5, _, by simp [hcn], by decide, rfl, al_none (cap := 163) hcn hf⟩, ⟨by rw [ht]; exact hP9, va_K.moved hW.alike hK9, hD9⟩⟩, hS.F ht⟩) hS.2.2 d_AL_add_24
