theorem Vin.mono {ci y : Nat} {tl tl' : va_W} (h : Vin ci tl y) (hs : ∀ q ∈ tl, q ∈ tl') : Vin ci tl' y := ⟨h.choose, hs _ h.choose_spec⟩
/-- a reading makes no more rows than it takes letters -/
def Cnt (f : List Nat → Nat × List Row × List Nat) : Prop := ∀ R, (f R).1 = 0 → (f R).2.1.length + (f R).2.2.length ≤ R.length
theorem one_cnt {f : List Nat → Nat × List Row × List Nat} (hc : Cnt f) (k : Nat) (ns : List (List Nat)) (R : List Nat) (h : (oneR f k ns R).1 = 0) : (oneR f k ns R).2.1.2.length + (oneR f k ns R).2.2.length ≤ R.length := by
  unfold oneR at h ⊢
  split
  · next h0 =>
    rw [if_pos h0] at h
    unfold memR at h ⊢
    split
    · next h1 =>
      rw [if_pos h1] at h
      cases hq : qtd 34 (R.drop 1) with
      | none => rw [hq] at h; exact absurd h Nat.one_ne_zero
      | some q =>
        have hl := qtd_lt _ (R.drop 1) (Nat.le_refl _) q hq
        rw [List.length_drop] at hl
        rw [hq] at h
        simp only at h ⊢
        split
        · next h2 => rw [if_pos h2] at h; exact absurd h (by decide)
        · next h2 =>
          rw [if_neg h2] at h
          split
          · next h3 =>
            rw [if_pos h3] at h
            have h4 := hc _ h
            have h5 := skp_le ((skp q.2).drop 1)
            have h6 := skp_le q.2
            rw [List.length_drop] at h5
            simp only
            omega
          · next h3 => rw [if_neg h3] at h; exact absurd h Nat.one_ne_zero
    · next h1 => rw [if_neg h1] at h; exact absurd h Nat.one_ne_zero
  · next h0 => rw [if_neg h0] at h; exact hc R h
theorem itm_cnt {f : List Nat → Nat × List Row × List Nat} (hc : Cnt f) (k : Nat) : ∀ (n : Nat) (ns : List (List Nat)) (rs : List (List Row)) (R : List Nat), ns.length = rs.length → (itmR f k n ns rs R).1 = 0 → (itmR f k n ns rs R).2.1.1.length = (itmR f k n ns rs R).2.1.2.length ∧ slen (itmR f k n ns rs R).2.1.2 + (itmR f k n ns rs R).2.2.length + 1 ≤ slen rs + R.length
  | 0, _, _, _, _, h => absurd h (by rw [itmR]; decide)
  | n + 1, ns, rs, R, hl, h => by
    rw [itm_succ] at h ⊢
    split
    · next h0 =>
      rw [if_pos h0] at h
      have h1 := one_cnt hc k ns (skp R) h0
      have h2 := skp_le R
      have h3 := skp_le (oneR f k ns (skp R)).2.2
      split
      · next h4 =>
        have hp : 0 < (skp (oneR f k ns (skp R)).2.2).length := hd0_pos (by rw [h4, clsK]; split <;> decide)
        simp only [slen_app, List.length_append, List.length_singleton, List.length_drop]
        exact ⟨by omega, by omega⟩
      · next h4 =>
        rw [if_neg h4] at h
        split
        · next h5 =>
          rw [if_pos h5] at h
          have hp : 0 < (skp (oneR f k ns (skp R)).2.2).length := hd0_pos (by omega)
          have h6 := itm_cnt hc k n _ _ _ (by simp [hl]) h
          rw [slen_app, List.length_drop] at h6
          exact ⟨h6.1, by omega⟩
        · next h5 => rw [if_neg h5] at h; exact absurd h Nat.one_ne_zero
    · next h0 => rw [if_neg h0] at h; exact absurd h h0
theorem brn_cnt {f : List Nat → Nat × List Row × List Nat} (hc : Cnt f) (k : Nat) : Cnt (brnR f k) := by
  intro R h
  unfold brnR at h ⊢
  split
  · next h0 =>
    have hp : 0 < R.length := hd0_pos (by rw [h0, clsK]; split <;> decide)
    show 1 + (R.drop 1).length ≤ _
    rw [List.length_drop]; omega
  · next h0 =>
    rw [if_neg h0] at h
    split
    · next h1 =>
      have h2 := itm_cnt hc k 160 [] [] R rfl h1
      show (kidRows k _ _).length + 1 + _ ≤ _
      rw [len_kids k _ _ h2.1]
      have h3 := h2.2
      simp only [slen, List.map_nil, List.sum_nil] at h3 ⊢
      omega
    · next h1 => rw [if_neg h1] at h; exact absurd h h1
theorem str_cnt (R : List Nat) (h0 : hd0 R = 34) (h : (strR R).1 = 0) : (strR R).2.1.length + (strR R).2.2.length ≤ R.length := by
  have h1 := strR_lt R h0 h
  unfold strR at h h1 ⊢
  cases hq : qtd 34 (R.drop 1) with
  | none => rw [hq] at h; exact absurd h Nat.one_ne_zero
  | some q => rw [hq] at h1; show 1 + q.2.length ≤ _; simp only at h1; omega
theorem sca_cnt (R : List Nat) (h : (scaR R).1 = 0) : (scaR R).2.1.length + (scaR R).2.2.length ≤ R.length := by
  have h1 := scaR_lt R h
  unfold scaR at h h1 ⊢
  split
  · next h0 =>
    rw [if_pos h0] at h h1
    cases hq : num R with
    | none => rw [hq] at h; exact absurd h Nat.one_ne_zero
    | some q => rw [hq] at h1; show 1 + q.2.length ≤ _; simp only at h1; omega
  · next h0 =>
    rw [if_neg h0] at h h1
    cases hq : wrd R with
    | none => rw [hq] at h; exact absurd h Nat.one_ne_zero
    | some q => rw [hq] at h1; show 1 + q.length ≤ _; simp only at h1; omega
theorem pv_cnt : ∀ d, Cnt (pv d)
  | 0 => fun R h => by
    by_cases h1 : hd0 R = 34
    · rw [pv_str h1] at h ⊢; exact str_cnt R h1 h
    · by_cases h2 : hd0 R = 91 ∨ hd0 R = 123
      · rw [pv_deep h1 h2] at h; exact absurd h (by decide)
      · rw [pv_sca h1 h2] at h ⊢; exact sca_cnt R h
  | d + 1 => fun R h => by
    by_cases h1 : hd0 R = 34
    · rw [pv_str h1] at h ⊢; exact str_cnt R h1 h
    · by_cases h2 : hd0 R = 91 ∨ hd0 R = 123
      · rw [pv_brn h1 h2] at h ⊢
        have h3 := brn_cnt (pv_cnt d) _ _ h
        have h4 := skp_le (R.drop 1)
        rw [List.length_drop] at h4
        omega
      · rw [pv_sca h1 h2] at h ⊢; exact sca_cnt R h
theorem whl_cnt (d : Nat) (L : List Nat) : (whl d L).2.length ≤ L.length := by
  unfold whl
  split
  · next h =>
    split
    · have h1 := pv_cnt d _ h
      have h2 := skp_le L
      show (pv d (skp L)).2.1.length ≤ _
      omega
    · exact Nat.zero_le _
  · exact Nat.zero_le _
set_option maxHeartbeats 1000000 in
set_option maxRecDepth 100000 in
/-- commit() -/
theorem k_PS_commit (l : Launch) (dC : Nat → ClassId) (dI : Nat → Nat → Nat) (sz : Nat) (x : Nat) (lim : Nat) (rm : Nat) (dl : Nat) (sb : Nat) (dc : Nat) (cm : Nat) (fo : Nat) (n : Nat) (cV : ClassId) (h : Nat → Option Nat) (hc : Nat → Option Nat) (D : Nat → Option (List Row)) (cB : ClassId) (cO : ClassId) (em : Nat) (aK : Nat → Nat) (aV : Nat → Nat) (fz : va_W) (hdoc : ∀ i, i < 3 → DOCz cB cO em aK fz (h i) (D i)) : Met l y_PS_commit ws_PS_commit ({ frames := 0, cells := 0, slots := 0, locals := 0 }) (va_Pc [.ref x] (fun U => U.heap.size = sz ∧ va_P (dC, dI) vwCl ([(x, .inr (0, [.int (nI lim), .int (nI rm), .ref dl, .int (nI n), .ref sb, .ref dc, .ref cm, .ref fo])), (dc, .inl (cV, 3, .inr (.inr (.inr (.inr h))))), (cm, .inl (cV, 3, .inr (.inr (.inr (.inr hc)))))] ++ fz) U.heap ∧ va_K (dC, dI) vwCl [(cV, .object "PatchStore$Value")] U ∧ va_D (fun _ => True) ([(x, .inr (0, [.int (nI lim), .int (nI rm), .ref dl, .int (nI n), .ref sb, .ref dc, .ref cm, .ref fo])), (dc, .inl (cV, 3, .inr (.inr (.inr (.inr h))))), (cm, .inl (cV, 3, .inr (.inr (.inr (.inr hc)))))] ++ fz) ∧ EX em aK aV (va_A ([(x, .inr (0, [.int (nI lim), .int (nI rm), .ref dl, .int (nI n), .ref sb, .ref dc, .ref cm, .ref fo])), (dc, .inl (cV, 3, .inr (.inr (.inr (.inr h))))), (cm, .inl (cV, 3, .inr (.inr (.inr (.inr hc)))))] ++ fz) sz) U U.heap)) (va_Qv (fun (u : Nat → Option Nat) => ∀ i, i < 3 → u i = h i) (fun u t => va_P (dC, dI) vwCl ([(x, .inr (0, [.int (nI lim), .int (nI rm), .ref dl, .int (nI n), .ref sb, .ref dc, .ref cm, .ref fo])), (dc, .inl (cV, 3, .inr (.inr (.inr (.inr h))))), (cm, .inl (cV, 3, .inr (.inr (.inr (.inr u)))))] ++ fz) t.heap ∧ va_K (dC, dI) vwCl [(cV, .object "PatchStore$Value")] t ∧ va_D (va_A ([(x, .inr (0, [.int (nI lim), .int (nI rm), .ref dl, .int (nI n), .ref sb, .ref dc, .ref cm, .ref fo])), (dc, .inl (cV, 3, .inr (.inr (.inr (.inr h))))), (cm, .inl (cV, 3, .inr (.inr (.inr (.inr hc)))))] ++ fz) sz) ([(x, .inr (0, [.int (nI lim), .int (nI rm), .ref dl, .int (nI n), .ref sb, .ref dc, .ref cm, .ref fo])), (dc, .inl (cV, 3, .inr (.inr (.inr (.inr h))))), (cm, .inl (cV, 3, .inr (.inr (.inr (.inr u)))))] ++ fz)) (va_A ([(x, .inr (0, [.int (nI lim), .int (nI rm), .ref dl, .int (nI n), .ref sb, .ref dc, .ref cm, .ref fo])), (dc, .inl (cV, 3, .inr (.inr (.inr (.inr h))))), (cm, .inl (cV, 3, .inr (.inr (.inr (.inr hc)))))] ++ fz) sz)) 0 0 (va_A ([(x, .inr (0, [.int (nI lim), .int (nI rm), .ref dl, .int (nI n), .ref sb, .ref dc, .ref cm, .ref fo])), (dc, .inl (cV, 3, .inr (.inr (.inr (.inr h))))), (cm, .inl (cV, 3, .inr (.inr (.inr (.inr hc)))))] ++ fz) sz) := by
  refine Met.ofW (cc := c_PS_commit) (maxL := 2) (ret := none) (by decide) rfl ?_
  intro p e s m args below meth c s₁ B hml hv
  obtain ⟨hargs, hsz, hP, hK, hD0, hE⟩ := hv
  rw [show entryFrame m args 2 = entryFrame m ([.ref x]).toArray 2 by rw [hargs]]
  have hx := B.exec
  have hb := B.bytes
  have hr := B.returns
  have hts := atoms_spec (ws := ws_PS_commit) B.pre
  have htb := fun w (h : w ∈ TBL) => hts w (List.mem_cons_of_mem _ h)
  have hown : s.vm.findClass R_PS = some m.cls := findClass_of_methodNamed B.named
  have hlocks := B.notSynchronized
  subst hsz
  have hD := hD0.self (sz := s.heap.size)
  generalize hAe : va_A ([(x, .inr (0, [.int (nI lim), .int (nI rm), .ref dl, .int (nI n), .ref sb, .ref dc, .ref cm, .ref fo])), (dc, .inl (cV, 3, .inr (.inr (.inr (.inr h))))), (cm, .inl (cV, 3, .inr (.inr (.inr (.inr hc)))))] ++ fz) s.heap.size = A at hD hE ⊢
  have hA : ∀ q : Nat, s.heap.size ≤ q → A q := fun q h => by rw [← hAe]; exact Or.inr h
  have hS : va_S A s.heap s.heap [] := va_S.rf
  have hP : va_P (dC, dI) vwCl ([(x, .inr (0, [.int (nI lim), .int (nI rm), .ref dl, .int (nI n), .ref sb, .ref dc, .ref cm, .ref fo])), (dc, .inl (cV, 3, .inr (.inr (.inr (.inr h))))), (cm, .inl (cV, 3, .inr (.inr (.inr (.inr hc)))))] ++ fz) s.heap := hP
  have hl := lv_entry ([.ref x]) (n := 2) (Nat.le_of_ble_eq_true rfl)
  rw [lg_entry_eq]
  generalize (lg_sl ([.ref x]) ++ List.replicate (2 - (lg_sl ([.ref x])).length) Slot.unset).toArray = ls at hl ⊢
  have hl : lv_has ls 2 [(0, .ref x)] := hl
  refine zz_nQ (fun Q hQ => ?_)
  refine lv_iconst (v := 0) hx hb d_PS_commit_0 (by decide) ?_
  refine lv_istore_n hx hb d_PS_commit_1 rfl hl (by decide) rfl (fun ls hl => ?_)
  have hl : lv_has ls 2 [(1, .int 0), (0, .ref x)] := hl
  have hloop : ∀ (k9 : Nat) (i : Nat) (f9 : Nat → Option Nat) (H : Heap) (locs : List Loc) (ls : Array Slot), 3 - i = k9 → (i ≤ 3) → (∀ j, j < i → f9 j = h j) → lv_has ls 2 [(1, .int (nI i)), (0, .ref x)] → va_P (dC, dI) vwCl ([(x, .inr (0, [.int (nI lim), .int (nI rm), .ref dl, .int (nI n), .ref sb, .ref dc, .ref cm, .ref fo])), (dc, .inl (cV, 3, .inr (.inr (.inr (.inr h))))), (cm, .inl (cV, 3, .inr (.inr (.inr (.inr f9)))))] ++ fz) H → va_D A ([(x, .inr (0, [.int (nI lim), .int (nI rm), .ref dl, .int (nI n), .ref sb, .ref dc, .ref cm, .ref fo])), (dc, .inl (cV, 3, .inr (.inr (.inr (.inr h))))), (cm, .inl (cV, 3, .inr (.inr (.inr (.inr f9)))))] ++ fz) → va_S A s.heap H locs → W p l e (headSpec ws_PS_commit ({ frames := 0, cells := 0, slots := 0, locals := 0 })).room s m args below meth c H locs 0 0 Q (F0 m 2 ls []) := by
    intro k9
    induction k9 using Nat.strongRecOn with
    | ind k9 ih =>
      intro i f9 H locs ls hk9 hi1 hi2 hl hP hD hS
      refine lv_iload_n hx hb d_PS_commit_2 rfl (lv_at hl 0 rfl) ?_
      refine lv_iconst (v := 3) hx hb d_PS_commit_3 (by decide) ?_
      refine lv_icmp_ge (tgt := 25) hx hb d_PS_commit_4 rfl (fun h1 => ?_) (fun h1 => ?_)
      · have h1 : 3 ≤ i := (nI_leI (by decide) (by omega)).mp h1
        have hP9 := zz_pickP (pre := [(x, .inr (0, [.int (nI lim), .int (nI rm), .ref dl, .int (nI n), .ref sb, .ref dc, .ref cm, .ref fo])), (dc, .inl (cV, 3, .inr (.inr (.inr (.inr h))))), (cm, .inl (cV, 3, .inr (.inr (.inr (.inr f9)))))]) (fz := fz) (wc := [(x, .inr (0, [.int (nI lim), .int (nI rm), .ref dl, .int (nI n), .ref sb, .ref dc, .ref cm, .ref fo])), (dc, .inl (cV, 3, .inr (.inr (.inr (.inr h))))), (cm, .inl (cV, 3, .inr (.inr (.inr (.inr f9)))))]) hP [0, 1, 2] rfl
        have hD9 := zz_pickD (pre := [(x, .inr (0, [.int (nI lim), .int (nI rm), .ref dl, .int (nI n), .ref sb, .ref dc, .ref cm, .ref fo])), (dc, .inl (cV, 3, .inr (.inr (.inr (.inr h))))), (cm, .inl (cV, 3, .inr (.inr (.inr (.inr f9)))))]) (fz := fz) (wc := [(x, .inr (0, [.int (nI lim), .int (nI rm), .ref dl, .int (nI n), .ref sb, .ref dc, .ref cm, .ref fo])), (dc, .inl (cV, 3, .inr (.inr (.inr (.inr h))))), (cm, .inl (cV, 3, .inr (.inr (.inr (.inr f9)))))]) hD [0, 1, 2] (by decide) rfl
        have hK9 := hK.sub (tys' := [(cV, .object "PatchStore$Value")]) [0] rfl
        rw [hQ]
        refine W.widen (k := 0) (n := 0) (Nat.le_of_ble_eq_true rfl) (Nat.le_of_ble_eq_true rfl) ?_
        exact W.vret hx hb hr (fun t ht hW => ⟨⟨f9, rfl, fun j hj => hi2 j (by omega), ⟨by rw [ht]; exact hP9, va_K.moved hW.alike hK9, hD9⟩⟩, hS.F ht⟩) hS.2.2 d_PS_commit_25
      · have h1 : i < 3 := Nat.not_le.mp (fun h => h1 ((nI_leI (by decide) (by omega)).mpr h))
        refine lv_aload_n hx hb d_PS_commit_7 rfl (lv_at hl 1 rfl) ?_
        refine va_get (D := (dC, dI)) (ci := 0) (v := .ref cm) (C := R_PS) (T := T_PS) (N := 8) hx hb htb in_PS hown hK hP 0 rfl rfl 6 (by decide) (htb _ m_105) (fun _ h9 => h9) rfl d_PS_commit_8 ?_
        refine lv_iload_n hx hb d_PS_commit_11 rfl (lv_at hl 0 rfl) ?_
        refine lv_aload_n hx hb d_PS_commit_12 rfl (lv_at hl 1 rfl) ?_
        refine va_get (D := (dC, dI)) (ci := 0) (v := .ref dc) (C := R_PS) (T := T_PS) (N := 8) hx hb htb in_PS hown hK hP 0 rfl rfl 5 (by decide) (htb _ m_104) (fun _ h9 => h9) rfl d_PS_commit_13 ?_
        refine lv_iload_n hx hb d_PS_commit_16 rfl (lv_at hl 0 rfl) ?_
        refine va_aldq hx hb hK hP 1 0 rfl rfl (vp_in_nI h1 (by decide)) d_PS_commit_17 ?_
        refine W.eq (congrArg (fun z99 => F0 m 18 ls (va_rf (h z99) :: [.int (nI i), .ref cm])) (nI_clamp (by omega) : (nI i).toNatClampNeg = i)) ?_
        rcases hdoc i h1 with ⟨hso, -⟩ | ⟨a9, n9, w9, hso, -, hv9⟩
        · rw [hso]
          refine W.eq (g2 := F0 m 18 ls [.null, .int (nI i), .ref cm]) rfl ?_
          refine va_astqN hx hb hK hP hD hS 2 0 rfl rfl (vp_in_nI h1 (by decide)) d_PS_commit_18 (fun H locs hP hD hS => ?_)
          have hP : va_P (dC, dI) vwCl ([(x, .inr (0, [.int (nI lim), .int (nI rm), .ref dl, .int (nI n), .ref sb, .ref dc, .ref cm, .ref fo])), (dc, .inl (cV, 3, .inr (.inr (.inr (.inr h))))), (cm, .inl (cV, 3, .inr (.inr (.inr (.inr (va_up f9 (nI i).toNatClampNeg none))))))] ++ fz) H := hP
          have hD : va_D A ([(x, .inr (0, [.int (nI lim), .int (nI rm), .ref dl, .int (nI n), .ref sb, .ref dc, .ref cm, .ref fo])), (dc, .inl (cV, 3, .inr (.inr (.inr (.inr h))))), (cm, .inl (cV, 3, .inr (.inr (.inr (.inr (va_up f9 (nI i).toNatClampNeg none))))))] ++ fz) := hD
          rw [show (nI i).toNatClampNeg = i from nI_clamp (by omega)] at hP hD
          have hP : va_P (dC, dI) vwCl ([(x, .inr (0, [.int (nI lim), .int (nI rm), .ref dl, .int (nI n), .ref sb, .ref dc, .ref cm, .ref fo])), (dc, .inl (cV, 3, .inr (.inr (.inr (.inr h))))), (cm, .inl (cV, 3, .inr (.inr (.inr (.inr (va_up f9 i none))))))] ++ fz) H := hP
          have hD : va_D A ([(x, .inr (0, [.int (nI lim), .int (nI rm), .ref dl, .int (nI n), .ref sb, .ref dc, .ref cm, .ref fo])), (dc, .inl (cV, 3, .inr (.inr (.inr (.inr h))))), (cm, .inl (cV, 3, .inr (.inr (.inr (.inr (va_up f9 i none))))))] ++ fz) := hD
          refine lv_iinc (k := 0) (v := ((nI i) + Int32.ofInt 1)) hx hb d_PS_commit_19 hl rfl rfl (by decide) rfl (fun ls hl => ?_)
          have hl : lv_has ls 2 [(1, .int ((nI i) + Int32.ofInt 1)), (0, .ref x)] := hl
          rw [show nI i + Int32.ofInt 1 = nI (i + 1) from nI_1 _] at hl
          refine lv_goto (tgt := 2) hx hb d_PS_commit_22 rfl ?_
          exact ih (3 - (i + 1)) (by omega) (i + 1) (va_up f9 i none) H locs ls rfl (by omega) (fun j hj => by by_cases hji : j = i; subst hji; simp [va_up, hso]; simp only [va_up, if_neg hji]; exact hi2 j (by omega)) (lv_sub hl [0, 1] rfl) (zz_pickP (pre := [(x, .inr (0, [.int (nI lim), .int (nI rm), .ref dl, .int (nI n), .ref sb, .ref dc, .ref cm, .ref fo])), (dc, .inl (cV, 3, .inr (.inr (.inr (.inr h))))), (cm, .inl (cV, 3, .inr (.inr (.inr (.inr (va_up f9 i none))))))]) (fz := fz) (wc := [(x, .inr (0, [.int (nI lim), .int (nI rm), .ref dl, .int (nI n), .ref sb, .ref dc, .ref cm, .ref fo])), (dc, .inl (cV, 3, .inr (.inr (.inr (.inr h))))), (cm, .inl (cV, 3, .inr (.inr (.inr (.inr (va_up f9 i none))))))]) hP [0, 1, 2] rfl) (zz_pickD (pre := [(x, .inr (0, [.int (nI lim), .int (nI rm), .ref dl, .int (nI n), .ref sb, .ref dc, .ref cm, .ref fo])), (dc, .inl (cV, 3, .inr (.inr (.inr (.inr h))))), (cm, .inl (cV, 3, .inr (.inr (.inr (.inr (va_up f9 i none))))))]) (fz := fz) (wc := [(x, .inr (0, [.int (nI lim), .int (nI rm), .ref dl, .int (nI n), .ref sb, .ref dc, .ref cm, .ref fo])), (dc, .inl (cV, 3, .inr (.inr (.inr (.inr h))))), (cm, .inl (cV, 3, .inr (.inr (.inr (.inr (va_up f9 i none))))))]) hD [0, 1, 2] (by decide) rfl) hS
        · rw [hso]
          refine W.eq (g2 := F0 m 18 ls [.ref a9, .int (nI i), .ref cm]) rfl ?_
          refine va_astqM hx hb hK hP hD hS 2 0 rfl rfl (zz_anyV hE hK hP (hv9.vin.app _)) (vp_in_nI h1 (by decide)) d_PS_commit_18 (fun H locs hP hD hS => ?_)
          rw [show (nI i).toNatClampNeg = i from nI_clamp (by omega)] at hP hD
          have hP : va_P (dC, dI) vwCl ([(x, .inr (0, [.int (nI lim), .int (nI rm), .ref dl, .int (nI n), .ref sb, .ref dc, .ref cm, .ref fo])), (dc, .inl (cV, 3, .inr (.inr (.inr (.inr h))))), (cm, .inl (cV, 3, .inr (.inr (.inr (.inr (va_up f9 i (some a9)))))))] ++ fz) H := hP
          have hD : va_D A ([(x, .inr (0, [.int (nI lim), .int (nI rm), .ref dl, .int (nI n), .ref sb, .ref dc, .ref cm, .ref fo])), (dc, .inl (cV, 3, .inr (.inr (.inr (.inr h))))), (cm, .inl (cV, 3, .inr (.inr (.inr (.inr (va_up f9 i (some a9)))))))] ++ fz) := hD
          refine lv_iinc (k := 0) (v := ((nI i) + Int32.ofInt 1)) hx hb d_PS_commit_19 hl rfl rfl (by decide) rfl (fun ls hl => ?_)
          have hl : lv_has ls 2 [(1, .int ((nI i) + Int32.ofInt 1)), (0, .ref x)] := hl
          rw [show nI i + Int32.ofInt 1 = nI (i + 1) from nI_1 _] at hl
          refine lv_goto (tgt := 2) hx hb d_PS_commit_22 rfl ?_
          exact ih (3 - (i + 1)) (by omega) (i + 1) (va_up f9 i (some a9)) H locs ls rfl (by omega) (fun j hj => by by_cases hji : j = i; subst hji; simp [va_up, hso]; simp only [va_up, if_neg hji]; exact hi2 j (by omega)) (lv_sub hl [0, 1] rfl) (zz_pickP (pre := [(x, .inr (0, [.int (nI lim), .int (nI rm), .ref dl, .int (nI n), .ref sb, .ref dc, .ref cm, .ref fo])), (dc, .inl (cV, 3, .inr (.inr (.inr (.inr h))))), (cm, .inl (cV, 3, .inr (.inr (.inr (.inr (va_up f9 i (some a9)))))))]) (fz := fz) (wc := [(x, .inr (0, [.int (nI lim), .int (nI rm), .ref dl, .int (nI n), .ref sb, .ref dc, .ref cm, .ref fo])), (dc, .inl (cV, 3, .inr (.inr (.inr (.inr h))))), (cm, .inl (cV, 3, .inr (.inr (.inr (.inr (va_up f9 i (some a9)))))))]) hP [0, 1, 2] rfl) (zz_pickD (pre := [(x, .inr (0, [.int (nI lim), .int (nI rm), .ref dl, .int (nI n), .ref sb, .ref dc, .ref cm, .ref fo])), (dc, .inl (cV, 3, .inr (.inr (.inr (.inr h))))), (cm, .inl (cV, 3, .inr (.inr (.inr (.inr (va_up f9 i (some a9)))))))]) (fz := fz) (wc := [(x, .inr (0, [.int (nI lim), .int (nI rm), .ref dl, .int (nI n), .ref sb, .ref dc, .ref cm, .ref fo])), (dc, .inl (cV, 3, .inr (.inr (.inr (.inr h))))), (cm, .inl (cV, 3, .inr (.inr (.inr (.inr (va_up f9 i (some a9)))))))]) hD [0, 1, 2] (by decide) rfl) hS
  exact hloop _ 0 hc _ _ ls rfl (by decide) (fun j hj => absurd hj (Nat.not_lt_zero _)) (lv_sub hl [0, 1] rfl) (zz_pickP (pre := [(x, .inr (0, [.int (nI lim), .int (nI rm), .ref dl, .int (nI n), .ref sb, .ref dc, .ref cm, .ref fo])), (dc, .inl (cV, 3, .inr (.inr (.inr (.inr h))))), (cm, .inl (cV, 3, .inr (.inr (.inr (.inr hc)))))]) (fz := fz) (wc := [(x, .inr (0, [.int (nI lim), .int (nI rm), .ref dl, .int (nI n), .ref sb, .ref dc, .ref cm, .ref fo])), (dc, .inl (cV, 3, .inr (.inr (.inr (.inr h))))), (cm, .inl (cV, 3, .inr (.inr (.inr (.inr hc)))))]) hP [0, 1, 2] rfl) (zz_pickD (pre := [(x, .inr (0, [.int (nI lim), .int (nI rm), .ref dl, .int (nI n), .ref sb, .ref dc, .ref cm, .ref fo])), (dc, .inl (cV, 3, .inr (.inr (.inr (.inr h))))), (cm, .inl (cV, 3, .inr (.inr (.inr (.inr hc)))))]) (fz := fz) (wc := [(x, .inr (0, [.int (nI lim), .int (nI rm), .ref dl, .int (nI n), .ref sb, .ref dc, .ref cm, .ref fo])), (dc, .inl (cV, 3, .inr (.inr (.inr (.inr h))))), (cm, .inl (cV, 3, .inr (.inr (.inr (.inr hc)))))]) hD [0, 1, 2] (by decide) rfl) hS
set_option maxHeartbeats 1000000 in
set_option maxRecDepth 100000 in
/-- crash() -/
theorem k_PS_crash (l : Launch) (dC : Nat → ClassId) (dI : Nat → Nat → Nat) (sz : Nat) (x : Nat) (lim : Nat) (rm : Nat) (dl : Nat) (sb : Nat) (dc : Nat) (cm : Nat) (fo : Nat) (n : Nat) (cV : ClassId) (h : Nat → Option Nat) (hc : Nat → Option Nat) (D : Nat → Option (List Row)) (cB : ClassId) (cO : ClassId) (em : Nat) (aK : Nat → Nat) (aV : Nat → Nat) (fz : va_W) (hdoc : ∀ i, i < 3 → DOCz cB cO em aK fz (hc i) (D i)) : Met l y_PS_crash ws_PS_crash ({ frames := 4, cells := 1, slots := 3, locals := 72 }) (va_Pc [.ref x] (fun U => U.heap.size = sz ∧ va_P (dC, dI) vwCl ([(x, .inr (0, [.int (nI lim), .int (nI rm), .ref dl, .int (nI n), .ref sb, .ref dc, .ref cm, .ref fo])), (dc, .inl (cV, 3, .inr (.inr (.inr (.inr h))))), (cm, .inl (cV, 3, .inr (.inr (.inr (.inr hc)))))] ++ fz) U.heap ∧ va_K (dC, dI) vwCl [(cV, .object "PatchStore$Value")] U ∧ va_D (fun _ => True) ([(x, .inr (0, [.int (nI lim), .int (nI rm), .ref dl, .int (nI n), .ref sb, .ref dc, .ref cm, .ref fo])), (dc, .inl (cV, 3, .inr (.inr (.inr (.inr h))))), (cm, .inl (cV, 3, .inr (.inr (.inr (.inr hc)))))] ++ fz) ∧ EX em aK aV (va_A ([(x, .inr (0, [.int (nI lim), .int (nI rm), .ref dl, .int (nI n), .ref sb, .ref dc, .ref cm, .ref fo])), (dc, .inl (cV, 3, .inr (.inr (.inr (.inr h))))), (cm, .inl (cV, 3, .inr (.inr (.inr (.inr hc)))))] ++ fz) sz) U U.heap)) (va_Qv (fun (u : (Nat → Option Nat) × va_W) => (∀ i, i < 3 → u.1 i = hc i) ∧ ∃ o9, u.2 = [(o9, Sum.inr (14, [Value.ref em, Value.int 0, Value.int 0]))]) (fun u t => ∃ (fo9 : Nat), va_P (dC, dI) vwCl ([(x, .inr (0, [.int (nI lim), .int (nI rm), .ref dl, .int 0, .ref sb, .ref dc, .ref cm, .ref fo9])), (dc, .inl (cV, 3, .inr (.inr (.inr (.inr u.1))))), (cm, .inl (cV, 3, .inr (.inr (.inr (.inr hc)))))] ++ (u.2 ++ fz)) t.heap ∧ va_K (dC, dI) vwCl [(cV, .object "PatchStore$Value")] t ∧ va_D (va_A ([(x, .inr (0, [.int (nI lim), .int (nI rm), .ref dl, .int (nI n), .ref sb, .ref dc, .ref cm, .ref fo])), (dc, .inl (cV, 3, .inr (.inr (.inr (.inr h))))), (cm, .inl (cV, 3, .inr (.inr (.inr (.inr hc)))))] ++ fz) sz) ([(x, .inr (0, [.int (nI lim), .int (nI rm), .ref dl, .int 0, .ref sb, .ref dc, .ref cm, .ref fo9])), (dc, .inl (cV, 3, .inr (.inr (.inr (.inr u.1))))), (cm, .inl (cV, 3, .inr (.inr (.inr (.inr hc)))))] ++ (u.2 ++ fz))) (va_A ([(x, .inr (0, [.int (nI lim), .int (nI rm), .ref dl, .int (nI n), .ref sb, .ref dc, .ref cm, .ref fo])), (dc, .inl (cV, 3, .inr (.inr (.inr (.inr h))))), (cm, .inl (cV, 3, .inr (.inr (.inr (.inr hc)))))] ++ fz) sz)) 1 3 (va_A ([(x, .inr (0, [.int (nI lim), .int (nI rm), .ref dl, .int (nI n), .ref sb, .ref dc, .ref cm, .ref fo])), (dc, .inl (cV, 3, .inr (.inr (.inr (.inr h))))), (cm, .inl (cV, 3, .inr (.inr (.inr (.inr hc)))))] ++ fz) sz) := by
  refine Met.ofW (cc := c_PS_crash) (maxL := 2) (ret := none) (by decide) rfl ?_
  intro p e s m args below meth c s₁ B hml hv
  obtain ⟨hargs, hsz, hP, hK, hD0, hE⟩ := hv
  rw [show entryFrame m args 2 = entryFrame m ([.ref x]).toArray 2 by rw [hargs]]
  have hx := B.exec
  have hb := B.bytes
  have hr := B.returns
  have hts := atoms_spec (ws := ws_PS_crash) B.pre
  have htb := fun w (h : w ∈ TBL) => hts w (List.mem_cons_of_mem _ h)
  have hown : s.vm.findClass R_PS = some m.cls := findClass_of_methodNamed B.named
  have hlocks := B.notSynchronized
  subst hsz
  have hD := hD0.self (sz := s.heap.size)
  generalize hAe : va_A ([(x, .inr (0, [.int (nI lim), .int (nI rm), .ref dl, .int (nI n), .ref sb, .ref dc, .ref cm, .ref fo])), (dc, .inl (cV, 3, .inr (.inr (.inr (.inr h))))), (cm, .inl (cV, 3, .inr (.inr (.inr (.inr hc)))))] ++ fz) s.heap.size = A at hD hE ⊢
  have hA : ∀ q : Nat, s.heap.size ≤ q → A q := fun q h => by rw [← hAe]; exact Or.inr h
  have hS : va_S A s.heap s.heap [] := va_S.rf
  have hP : va_P (dC, dI) vwCl ([(x, .inr (0, [.int (nI lim), .int (nI rm), .ref dl, .int (nI n), .ref sb, .ref dc, .ref cm, .ref fo])), (dc, .inl (cV, 3, .inr (.inr (.inr (.inr h))))), (cm, .inl (cV, 3, .inr (.inr (.inr (.inr hc)))))] ++ fz) s.heap := hP
  have hl := lv_entry ([.ref x]) (n := 2) (Nat.le_of_ble_eq_true rfl)
  rw [lg_entry_eq]
  generalize (lg_sl ([.ref x]) ++ List.replicate (2 - (lg_sl ([.ref x])).length) Slot.unset).toArray = ls at hl ⊢
  have hl : lv_has ls 2 [(0, .ref x)] := hl
  refine zz_nQ (fun Q hQ => ?_)
  refine lv_iconst (v := 0) hx hb d_PS_crash_0 (by decide) ?_
  refine lv_istore_n hx hb d_PS_crash_1 rfl hl (by decide) rfl (fun ls hl => ?_)
  have hl : lv_has ls 2 [(1, .int 0), (0, .ref x)] := hl
  have hloop : ∀ (k9 : Nat) (i : Nat) (f9 : Nat → Option Nat) (H : Heap) (locs : List Loc) (ls : Array Slot), 3 - i = k9 → (i ≤ 3) → (∀ j, j < i → f9 j = hc j) → lv_has ls 2 [(1, .int (nI i)), (0, .ref x)] → va_P (dC, dI) vwCl ([(x, .inr (0, [.int (nI lim), .int (nI rm), .ref dl, .int (nI n), .ref sb, .ref dc, .ref cm, .ref fo])), (dc, .inl (cV, 3, .inr (.inr (.inr (.inr f9))))), (cm, .inl (cV, 3, .inr (.inr (.inr (.inr hc)))))] ++ fz) H → va_D A ([(x, .inr (0, [.int (nI lim), .int (nI rm), .ref dl, .int (nI n), .ref sb, .ref dc, .ref cm, .ref fo])), (dc, .inl (cV, 3, .inr (.inr (.inr (.inr f9))))), (cm, .inl (cV, 3, .inr (.inr (.inr (.inr hc)))))] ++ fz) → va_S A s.heap H locs → W p l e (headSpec ws_PS_crash ({ frames := 4, cells := 1, slots := 3, locals := 72 })).room s m args below meth c H locs 0 0 Q (F0 m 2 ls []) := by
    intro k9
    induction k9 using Nat.strongRecOn with
    | ind k9 ih =>
      intro i f9 H locs ls hk9 hi1 hi2 hl hP hD hS
      refine lv_iload_n hx hb d_PS_crash_2 rfl (lv_at hl 0 rfl) ?_
      refine lv_iconst (v := 3) hx hb d_PS_crash_3 (by decide) ?_
      refine lv_icmp_ge (tgt := 25) hx hb d_PS_crash_4 rfl (fun h1 => ?_) (fun h1 => ?_)
      · have h1 : 3 ≤ i := (nI_leI (by decide) (by omega)).mp h1
        refine lv_aload_n hx hb d_PS_crash_25 rfl (lv_at hl 1 rfl) ?_
        refine lv_iconst (v := 0) hx hb d_PS_crash_26 (by decide) ?_
        refine va_put (D := (dC, dI)) (ci := 0) (v := .int 0) (ty := .int) (C := R_PS) (T := T_PS) (N := 8) hx hb htb in_PS ty_PS ty_PS_ok nm_PS hown hK hP hD hS 0 rfl rfl 3 (by decide) (htb _ m_102) (fun _ h9 => h9) rfl (by decide +kernel) rfl rfl (Nat.le_of_ble_eq_true rfl) d_PS_crash_27 (fun H locs hP hD hS => ?_)
        have hP : va_P (dC, dI) vwCl ([(x, .inr (0, [.int (nI lim), .int (nI rm), .ref dl, .int 0, .ref sb, .ref dc, .ref cm, .ref fo])), (dc, .inl (cV, 3, .inr (.inr (.inr (.inr f9))))), (cm, .inl (cV, 3, .inr (.inr (.inr (.inr hc)))))] ++ fz) H := hP
        have hD : va_D A ([(x, .inr (0, [.int (nI lim), .int (nI rm), .ref dl, .int 0, .ref sb, .ref dc, .ref cm, .ref fo])), (dc, .inl (cV, 3, .inr (.inr (.inr (.inr f9))))), (cm, .inl (cV, 3, .inr (.inr (.inr (.inr hc)))))] ++ fz) := hD
        refine lv_aload_n hx hb d_PS_crash_30 rfl (lv_at hl 1 rfl) ?_
        refine va_new (ci := 14) (fs := [.null, .int 0, .int 0]) (C := R_AL) (T := T_AL) (N := 3) hx hb htb in_AL ty_AL ty_AL_ok hown (htb _ m_73) (htb _ m_74) (htb _ m_8) hK hP hD hS hA rfl (fun j hj => by rcases (show j = 0 ∨ j = 1 ∨ j = 2 by omega) with rfl | rfl | rfl <;> rfl) (Nat.le_of_ble_eq_true rfl) (Nat.le_of_ble_eq_true rfl) d_PS_crash_31 (fun fl H hP hD hS => ?_)
        have hP := zz_rotP (pre := [(x, .inr (0, [.int (nI lim), .int (nI rm), .ref dl, .int 0, .ref sb, .ref dc, .ref cm, .ref fo])), (dc, .inl (cV, 3, .inr (.inr (.inr (.inr f9))))), (cm, .inl (cV, 3, .inr (.inr (.inr (.inr hc)))))]) (fz := fz) hP
        have hD := zz_rotD (pre := [(x, .inr (0, [.int (nI lim), .int (nI rm), .ref dl, .int 0, .ref sb, .ref dc, .ref cm, .ref fo])), (dc, .inl (cV, 3, .inr (.inr (.inr (.inr f9))))), (cm, .inl (cV, 3, .inr (.inr (.inr (.inr hc)))))]) (fz := fz) hD
        have hP : va_P (dC, dI) vwCl ([(x, .inr (0, [.int (nI lim), .int (nI rm), .ref dl, .int 0, .ref sb, .ref dc, .ref cm, .ref fo])), (dc, .inl (cV, 3, .inr (.inr (.inr (.inr f9))))), (cm, .inl (cV, 3, .inr (.inr (.inr (.inr hc))))), (fl, .inr (14, [.null, .int 0, .int 0]))] ++ fz) H := hP
        have hD : va_D A ([(x, .inr (0, [.int (nI lim), .int (nI rm), .ref dl, .int 0, .ref sb, .ref dc, .ref cm, .ref fo])), (dc, .inl (cV, 3, .inr (.inr (.inr (.inr f9))))), (cm, .inl (cV, 3, .inr (.inr (.inr (.inr hc))))), (fl, .inr (14, [.null, .int 0, .int 0]))] ++ fz) := hD
        refine W.widen (k := 1) (n := 3) (Nat.le_of_ble_eq_true rfl) (Nat.le_of_ble_eq_true rfl) ?_
        refine lv_dup hx hb d_PS_crash_34 rfl ?_
        have hPc := hP.sub (ws' := [(fl, .inr (14, [.null, .int 0, .int 0]))]) [3] rfl
        have hDc := hD.sub (ws' := [(fl, .inr (14, [.null, .int 0, .int 0]))]) [3] (by decide) rfl
        have hFc := va_free (wc := [(fl, .inr (14, [.null, .int 0, .int 0]))]) hD hS hA [3] rfl
        have hKc := hK.sub (tys' := []) [] rfl
        refine va_callv (va_runI (As := []) (rest := [.ref fl, .ref x]) ⟨hx, hb, hml, hown, htb⟩ (k_AL_init l dC dI _ fl em aK aV ) (cwI 0 htb (g_all (fun _ h => h) m_77) rfl rfl rfl (htb _ m_8) (htb _ m_75) (htb _ m_76) rfl (by decide +kernel) ⟨Nat.le_of_ble_eq_true rfl, Nat.le_of_ble_eq_true rfl⟩) ⟨fun a U g mk q => by obtain ⟨q0, q1, qP, qK, qD, z0⟩ := q; exact ⟨q0, q1, qP, va_K.moved (u := U) (U := U.calling g mk a) (Vm.Alike.refl U.vm) qK, qD, EX.same (U := U) (U' := U.calling g mk a) rfl z0⟩, fun U hU hW => ⟨rfl, by rw [hU], by rw [hU]; exact hPc, va_K.moved hW.alike hKc, hDc.weaken (fun _ _ _ _ => trivial), by rw [hU]; exact EX.warm hW ((hE.kept (fun a h1 h2 => hS.2.1 a h1 h2)).narrow hFc)⟩⟩ rfl rfl hl.1 rfl (lv_room (Nat.le_of_ble_eq_true rfl)) d_PS_crash_35 ⟨Nat.le_of_ble_eq_true rfl, Nat.le_of_ble_eq_true rfl⟩) hS (fun q _ h => hFc q h) hFc (fun u1 t H1 locs ht hvm hw3 hB hz1 hk1 hS => ?_)
        obtain ⟨hP1, hK1, hD1⟩ := hB
        rw [ht] at hP1
        have hK1 := va_K.moved hvm.symm hK1
        have hw3 : True := hw3
        obtain ⟨hP, hD⟩ := zz_joinN (pre := [(x, .inr (0, [.int (nI lim), .int (nI rm), .ref dl, .int 0, .ref sb, .ref dc, .ref cm, .ref fo])), (dc, .inl (cV, 3, .inr (.inr (.inr (.inr f9))))), (cm, .inl (cV, 3, .inr (.inr (.inr (.inr hc))))), (fl, .inr (14, [.null, .int 0, .int 0]))]) (fz := fz) (wc := [(fl, .inr (14, [.null, .int 0, .int 0]))]) (wr := [(x, .inr (0, [.int (nI lim), .int (nI rm), .ref dl, .int 0, .ref sb, .ref dc, .ref cm, .ref fo])), (dc, .inl (cV, 3, .inr (.inr (.inr (.inr f9))))), (cm, .inl (cV, 3, .inr (.inr (.inr (.inr hc)))))]) (w1 := [(fl, .inr (14, [.ref em, .int 0, .int 0]))]) hP hD [3] [0, 1, 2] rfl rfl (by decide) (by decide) hk1 hFc hP1 hD1
        have hK := (hK.sub (tys' := [(cV, .object "PatchStore$Value")]) [0] rfl).app hK1
        generalize H1 = H at hP hS ⊢
        have hP : va_P (dC, dI) vwCl ([(x, .inr (0, [.int (nI lim), .int (nI rm), .ref dl, .int 0, .ref sb, .ref dc, .ref cm, .ref fo])), (dc, .inl (cV, 3, .inr (.inr (.inr (.inr f9))))), (cm, .inl (cV, 3, .inr (.inr (.inr (.inr hc))))), (fl, .inr (14, [.ref em, .int 0, .int 0]))] ++ fz) H := hP
        have hD : va_D A ([(x, .inr (0, [.int (nI lim), .int (nI rm), .ref dl, .int 0, .ref sb, .ref dc, .ref cm, .ref fo])), (dc, .inl (cV, 3, .inr (.inr (.inr (.inr f9))))), (cm, .inl (cV, 3, .inr (.inr (.inr (.inr hc))))), (fl, .inr (14, [.ref em, .int 0, .int 0]))] ++ fz) := hD
        have hK : va_K (dC, dI) vwCl [(cV, .object "PatchStore$Value")] s := hK
        refine va_put (D := (dC, dI)) (ci := 0) (v := .ref fl) (ty := (.object "java/util/ArrayList")) (C := R_PS) (T := T_PS) (N := 8) hx hb htb in_PS ty_PS ty_PS_ok nm_PS hown hK hP hD hS 0 rfl rfl 7 (by decide) (htb _ m_106) (fun _ h9 => h9) rfl (by decide +kernel) rfl rfl (Nat.le_of_ble_eq_true rfl) d_PS_crash_38 (fun H locs hP hD hS => ?_)
        have hP : va_P (dC, dI) vwCl ([(x, .inr (0, [.int (nI lim), .int (nI rm), .ref dl, .int 0, .ref sb, .ref dc, .ref cm, .ref fl])), (dc, .inl (cV, 3, .inr (.inr (.inr (.inr f9))))), (cm, .inl (cV, 3, .inr (.inr (.inr (.inr hc))))), (fl, .inr (14, [.ref em, .int 0, .int 0]))] ++ fz) H := hP
        have hD : va_D A ([(x, .inr (0, [.int (nI lim), .int (nI rm), .ref dl, .int 0, .ref sb, .ref dc, .ref cm, .ref fl])), (dc, .inl (cV, 3, .inr (.inr (.inr (.inr f9))))), (cm, .inl (cV, 3, .inr (.inr (.inr (.inr hc))))), (fl, .inr (14, [.ref em, .int 0, .int 0]))] ++ fz) := hD
        have hP9 := zz_pickP (pre := [(x, .inr (0, [.int (nI lim), .int (nI rm), .ref dl, .int 0, .ref sb, .ref dc, .ref cm, .ref fl])), (dc, .inl (cV, 3, .inr (.inr (.inr (.inr f9))))), (cm, .inl (cV, 3, .inr (.inr (.inr (.inr hc))))), (fl, .inr (14, [.ref em, .int 0, .int 0]))]) (fz := fz) (wc := [(x, .inr (0, [.int (nI lim), .int (nI rm), .ref dl, .int 0, .ref sb, .ref dc, .ref cm, .ref fl])), (dc, .inl (cV, 3, .inr (.inr (.inr (.inr f9))))), (cm, .inl (cV, 3, .inr (.inr (.inr (.inr hc))))), (fl, .inr (14, [.ref em, .int 0, .int 0]))]) hP [0, 1, 2, 3] rfl
        have hD9 := zz_pickD (pre := [(x, .inr (0, [.int (nI lim), .int (nI rm), .ref dl, .int 0, .ref sb, .ref dc, .ref cm, .ref fl])), (dc, .inl (cV, 3, .inr (.inr (.inr (.inr f9))))), (cm, .inl (cV, 3, .inr (.inr (.inr (.inr hc))))), (fl, .inr (14, [.ref em, .int 0, .int 0]))]) (fz := fz) (wc := [(x, .inr (0, [.int (nI lim), .int (nI rm), .ref dl, .int 0, .ref sb, .ref dc, .ref cm, .ref fl])), (dc, .inl (cV, 3, .inr (.inr (.inr (.inr f9))))), (cm, .inl (cV, 3, .inr (.inr (.inr (.inr hc))))), (fl, .inr (14, [.ref em, .int 0, .int 0]))]) hD [0, 1, 2, 3] (by decide) rfl
        have hK9 := hK.sub (tys' := [(cV, .object "PatchStore$Value")]) [0] rfl
        rw [hQ]
        refine W.widen (k := 1) (n := 3) (Nat.le_of_ble_eq_true rfl) (Nat.le_of_ble_eq_true rfl) ?_
        exact W.vret hx hb hr (fun t ht hW => ⟨⟨(f9, [(fl, .inr (14, [.ref em, .int 0, .int 0]))]), rfl, ⟨fun j hj => hi2 j (by omega), _, rfl⟩, ⟨fl, by rw [ht]; exact hP9, va_K.moved hW.alike hK9, hD9⟩⟩, hS.F ht⟩) hS.2.2 d_PS_crash_41
      · have h1 : i < 3 := Nat.not_le.mp (fun h => h1 ((nI_leI (by decide) (by omega)).mpr h))
        refine lv_aload_n hx hb d_PS_crash_7 rfl (lv_at hl 1 rfl) ?_
        refine va_get (D := (dC, dI)) (ci := 0) (v := .ref dc) (C := R_PS) (T := T_PS) (N := 8) hx hb htb in_PS hown hK hP 0 rfl rfl 5 (by decide) (htb _ m_104) (fun _ h9 => h9) rfl d_PS_crash_8 ?_
        refine lv_iload_n hx hb d_PS_crash_11 rfl (lv_at hl 0 rfl) ?_
        refine lv_aload_n hx hb d_PS_crash_12 rfl (lv_at hl 1 rfl) ?_
        refine va_get (D := (dC, dI)) (ci := 0) (v := .ref cm) (C := R_PS) (T := T_PS) (N := 8) hx hb htb in_PS hown hK hP 0 rfl rfl 6 (by decide) (htb _ m_105) (fun _ h9 => h9) rfl d_PS_crash_13 ?_
        refine lv_iload_n hx hb d_PS_crash_16 rfl (lv_at hl 0 rfl) ?_
        refine va_aldq hx hb hK hP 2 0 rfl rfl (vp_in_nI h1 (by decide)) d_PS_crash_17 ?_
        refine W.eq (congrArg (fun z99 => F0 m 18 ls (va_rf (hc z99) :: [.int (nI i), .ref dc])) (nI_clamp (by omega) : (nI i).toNatClampNeg = i)) ?_
        rcases hdoc i h1 with ⟨hso, -⟩ | ⟨a9, n9, w9, hso, -, hv9⟩
        · rw [hso]
          refine W.eq (g2 := F0 m 18 ls [.null, .int (nI i), .ref dc]) rfl ?_
          refine va_astqN hx hb hK hP hD hS 1 0 rfl rfl (vp_in_nI h1 (by decide)) d_PS_crash_18 (fun H locs hP hD hS => ?_)
          have hP : va_P (dC, dI) vwCl ([(x, .inr (0, [.int (nI lim), .int (nI rm), .ref dl, .int (nI n), .ref sb, .ref dc, .ref cm, .ref fo])), (dc, .inl (cV, 3, .inr (.inr (.inr (.inr (va_up f9 (nI i).toNatClampNeg none)))))), (cm, .inl (cV, 3, .inr (.inr (.inr (.inr hc)))))] ++ fz) H := hP
          have hD : va_D A ([(x, .inr (0, [.int (nI lim), .int (nI rm), .ref dl, .int (nI n), .ref sb, .ref dc, .ref cm, .ref fo])), (dc, .inl (cV, 3, .inr (.inr (.inr (.inr (va_up f9 (nI i).toNatClampNeg none)))))), (cm, .inl (cV, 3, .inr (.inr (.inr (.inr hc)))))] ++ fz) := hD
          rw [show (nI i).toNatClampNeg = i from nI_clamp (by omega)] at hP hD
          have hP : va_P (dC, dI) vwCl ([(x, .inr (0, [.int (nI lim), .int (nI rm), .ref dl, .int (nI n), .ref sb, .ref dc, .ref cm, .ref fo])), (dc, .inl (cV, 3, .inr (.inr (.inr (.inr (va_up f9 i none)))))), (cm, .inl (cV, 3, .inr (.inr (.inr (.inr hc)))))] ++ fz) H := hP
          have hD : va_D A ([(x, .inr (0, [.int (nI lim), .int (nI rm), .ref dl, .int (nI n), .ref sb, .ref dc, .ref cm, .ref fo])), (dc, .inl (cV, 3, .inr (.inr (.inr (.inr (va_up f9 i none)))))), (cm, .inl (cV, 3, .inr (.inr (.inr (.inr hc)))))] ++ fz) := hD
          refine lv_iinc (k := 0) (v := ((nI i) + Int32.ofInt 1)) hx hb d_PS_crash_19 hl rfl rfl (by decide) rfl (fun ls hl => ?_)
          have hl : lv_has ls 2 [(1, .int ((nI i) + Int32.ofInt 1)), (0, .ref x)] := hl
          rw [show nI i + Int32.ofInt 1 = nI (i + 1) from nI_1 _] at hl
          refine lv_goto (tgt := 2) hx hb d_PS_crash_22 rfl ?_
          exact ih (3 - (i + 1)) (by omega) (i + 1) (va_up f9 i none) H locs ls rfl (by omega) (fun j hj => by by_cases hji : j = i; subst hji; simp [va_up, hso]; simp only [va_up, if_neg hji]; exact hi2 j (by omega)) (lv_sub hl [0, 1] rfl) (zz_pickP (pre := [(x, .inr (0, [.int (nI lim), .int (nI rm), .ref dl, .int (nI n), .ref sb, .ref dc, .ref cm, .ref fo])), (dc, .inl (cV, 3, .inr (.inr (.inr (.inr (va_up f9 i none)))))), (cm, .inl (cV, 3, .inr (.inr (.inr (.inr hc)))))]) (fz := fz) (wc := [(x, .inr (0, [.int (nI lim), .int (nI rm), .ref dl, .int (nI n), .ref sb, .ref dc, .ref cm, .ref fo])), (dc, .inl (cV, 3, .inr (.inr (.inr (.inr (va_up f9 i none)))))), (cm, .inl (cV, 3, .inr (.inr (.inr (.inr hc)))))]) hP [0, 1, 2] rfl) (zz_pickD (pre := [(x, .inr (0, [.int (nI lim), .int (nI rm), .ref dl, .int (nI n), .ref sb, .ref dc, .ref cm, .ref fo])), (dc, .inl (cV, 3, .inr (.inr (.inr (.inr (va_up f9 i none)))))), (cm, .inl (cV, 3, .inr (.inr (.inr (.inr hc)))))]) (fz := fz) (wc := [(x, .inr (0, [.int (nI lim), .int (nI rm), .ref dl, .int (nI n), .ref sb, .ref dc, .ref cm, .ref fo])), (dc, .inl (cV, 3, .inr (.inr (.inr (.inr (va_up f9 i none)))))), (cm, .inl (cV, 3, .inr (.inr (.inr (.inr hc)))))]) hD [0, 1, 2] (by decide) rfl) hS
        · rw [hso]
          refine W.eq (g2 := F0 m 18 ls [.ref a9, .int (nI i), .ref dc]) rfl ?_
          refine va_astqM hx hb hK hP hD hS 1 0 rfl rfl (zz_anyV hE hK hP (hv9.vin.app _)) (vp_in_nI h1 (by decide)) d_PS_crash_18 (fun H locs hP hD hS => ?_)
          rw [show (nI i).toNatClampNeg = i from nI_clamp (by omega)] at hP hD
          have hP : va_P (dC, dI) vwCl ([(x, .inr (0, [.int (nI lim), .int (nI rm), .ref dl, .int (nI n), .ref sb, .ref dc, .ref cm, .ref fo])), (dc, .inl (cV, 3, .inr (.inr (.inr (.inr (va_up f9 i (some a9))))))), (cm, .inl (cV, 3, .inr (.inr (.inr (.inr hc)))))] ++ fz) H := hP
          have hD : va_D A ([(x, .inr (0, [.int (nI lim), .int (nI rm), .ref dl, .int (nI n), .ref sb, .ref dc, .ref cm, .ref fo])), (dc, .inl (cV, 3, .inr (.inr (.inr (.inr (va_up f9 i (some a9))))))), (cm, .inl (cV, 3, .inr (.inr (.inr (.inr hc)))))] ++ fz) := hD
          refine lv_iinc (k := 0) (v := ((nI i) + Int32.ofInt 1)) hx hb d_PS_crash_19 hl rfl rfl (by decide) rfl (fun ls hl => ?_)
          have hl : lv_has ls 2 [(1, .int ((nI i) + Int32.ofInt 1)), (0, .ref x)] := hl
          rw [show nI i + Int32.ofInt 1 = nI (i + 1) from nI_1 _] at hl
          refine lv_goto (tgt := 2) hx hb d_PS_crash_22 rfl ?_
          exact ih (3 - (i + 1)) (by omega) (i + 1) (va_up f9 i (some a9)) H locs ls rfl (by omega) (fun j hj => by by_cases hji : j = i; subst hji; simp [va_up, hso]; simp only [va_up, if_neg hji]; exact hi2 j (by omega)) (lv_sub hl [0, 1] rfl) (zz_pickP (pre := [(x, .inr (0, [.int (nI lim), .int (nI rm), .ref dl, .int (nI n), .ref sb, .ref dc, .ref cm, .ref fo])), (dc, .inl (cV, 3, .inr (.inr (.inr (.inr (va_up f9 i (some a9))))))), (cm, .inl (cV, 3, .inr (.inr (.inr (.inr hc)))))]) (fz := fz) (wc := [(x, .inr (0, [.int (nI lim), .int (nI rm), .ref dl, .int (nI n), .ref sb, .ref dc, .ref cm, .ref fo])), (dc, .inl (cV, 3, .inr (.inr (.inr (.inr (va_up f9 i (some a9))))))), (cm, .inl (cV, 3, .inr (.inr (.inr (.inr hc)))))]) hP [0, 1, 2] rfl) (zz_pickD (pre := [(x, .inr (0, [.int (nI lim), .int (nI rm), .ref dl, .int (nI n), .ref sb, .ref dc, .ref cm, .ref fo])), (dc, .inl (cV, 3, .inr (.inr (.inr (.inr (va_up f9 i (some a9))))))), (cm, .inl (cV, 3, .inr (.inr (.inr (.inr hc)))))]) (fz := fz) (wc := [(x, .inr (0, [.int (nI lim), .int (nI rm), .ref dl, .int (nI n), .ref sb, .ref dc, .ref cm, .ref fo])), (dc, .inl (cV, 3, .inr (.inr (.inr (.inr (va_up f9 i (some a9))))))), (cm, .inl (cV, 3, .inr (.inr (.inr (.inr hc)))))]) hD [0, 1, 2] (by decide) rfl) hS
  exact hloop _ 0 h _ _ ls rfl (by decide) (fun j hj => absurd hj (Nat.not_lt_zero _)) (lv_sub hl [0, 1] rfl) (zz_pickP (pre := [(x, .inr (0, [.int (nI lim), .int (nI rm), .ref dl, .int (nI n), .ref sb, .ref dc, .ref cm, .ref fo])), (dc, .inl (cV, 3, .inr (.inr (.inr (.inr h))))), (cm, .inl (cV, 3, .inr (.inr (.inr (.inr hc)))))]) (fz := fz) (wc := [(x, .inr (0, [.int (nI lim), .int (nI rm), .ref dl, .int (nI n), .ref sb, .ref dc, .ref cm, .ref fo])), (dc, .inl (cV, 3, .inr (.inr (.inr (.inr h))))), (cm, .inl (cV, 3, .inr (.inr (.inr (.inr hc)))))]) hP [0, 1, 2] rfl) (zz_pickD (pre := [(x, .inr (0, [.int (nI lim), .int (nI rm), .ref dl, .int (nI n), .ref sb, .ref dc, .ref cm, .ref fo])), (dc, .inl (cV, 3, .inr (.inr (.inr (.inr h))))), (cm, .inl (cV, 3, .inr (.inr (.inr (.inr hc)))))]) (fz := fz) (wc := [(x, .inr (0, [.int (nI lim), .int (nI rm), .ref dl, .int (nI n), .ref sb, .ref dc, .ref cm, .ref fo])), (dc, .inl (cV, 3, .inr (.inr (.inr (.inr h))))), (cm, .inl (cV, 3, .inr (.inr (.inr (.inr hc)))))]) hD [0, 1, 2] (by decide) rfl) hS
set_option maxHeartbeats 1000000 in
set_option maxRecDepth 100000 in
/-- put(d) -/
theorem k_PS_put (l : Launch) (dC : Nat → ClassId) (dI : Nat → Nat → Nat) (sz : Nat) (x : Nat) (lim : Nat) (rm : Nat) (dl : Nat) (sb : Nat) (dc : Nat) (cm : Nat) (fo : Nat) (cC : ClassId) (f : Nat → Int32) (L : List Nat) (bv : Nat) (ml : Int32) (cB : ClassId) (g : Nat → Int32) (cap : Nat) (tx : List Nat) (cO : ClassId) (cV : ClassId) (h : Nat → Option Nat) (k : Int32) (em : Nat) (aK : Nat → Nat) (aV : Nat → Nat) (fz : va_W) (hL : Drf L f) (hB : Bld tx cap g) (hlim : lim ≤ 12) (hrm : rm ≤ 64) : Met l y_PS_put ws_PS_put ({ frames := 80, cells := (6 * L.length + 6), slots := (340 * L.length + 181), locals := 3000 }) (va_Pc [.ref x, .int k] (fun U => U.heap.size = sz ∧ va_P (dC, dI) vwCl ([(x, .inr (0, [.int (nI lim), .int (nI rm), .ref dl, .int (nI L.length), .ref sb, .ref dc, .ref cm, .ref fo])), (dl, .inl (cC, 160, .inl f)), (sb, .inr (13, [.ref bv, .int 0, .int ml, .int (nI tx.length)])), (bv, .inl (cB, cap, .inl g)), (dc, .inl (cV, 3, .inr (.inr (.inr (.inr h)))))] ++ fz) U.heap ∧ va_K (dC, dI) vwCl [(cC, .char), (cB, .byte), (cO, .object "java/lang/Object"), (cV, .object "PatchStore$Value")] U ∧ va_D (fun _ => True) ([(x, .inr (0, [.int (nI lim), .int (nI rm), .ref dl, .int (nI L.length), .ref sb, .ref dc, .ref cm, .ref fo])), (dl, .inl (cC, 160, .inl f)), (sb, .inr (13, [.ref bv, .int 0, .int ml, .int (nI tx.length)])), (bv, .inl (cB, cap, .inl g)), (dc, .inl (cV, 3, .inr (.inr (.inr (.inr h)))))] ++ fz) ∧ EX em aK aV (va_A ([(x, .inr (0, [.int (nI lim), .int (nI rm), .ref dl, .int (nI L.length), .ref sb, .ref dc, .ref cm, .ref fo])), (dl, .inl (cC, 160, .inl f)), (sb, .inr (13, [.ref bv, .int 0, .int ml, .int (nI tx.length)])), (bv, .inl (cB, cap, .inl g)), (dc, .inl (cV, 3, .inr (.inr (.inr (.inr h)))))] ++ fz) sz) U U.heap)) (va_Qi (fun (r : Int32) (u : Int32 × List Nat × Nat × (Nat → Int32) × va_W × (Nat → Option Nat)) => Bld u.2.1 u.2.2.1 u.2.2.2.1 ∧ ((((k < 0 ∨ 3 ≤ k) ∧ r = -1) ∧ u.2.2.2.2.2 = h) ∨ (¬ (k < 0 ∨ 3 ≤ k) ∧ r = nI (putC lim rm L) ∧ ((¬ putC lim rm L = 0 ∧ u.2.2.2.2.2 = h) ∨ (putC lim rm L = 0 ∧ ∃ y8, u.2.2.2.2.2 = va_up h k.toNatClampNeg (some y8) ∧ VT cB cO em aK (lim + 1) u.2.2.2.2.1 y8 [] (whl lim L).2))))) (fun u t => ∃ (bv9 : Nat), va_P (dC, dI) vwCl ([(x, .inr (0, [.int (nI lim), .int (nI rm), .ref dl, .int 0, .ref sb, .ref dc, .ref cm, .ref fo])), (dl, .inl (cC, 160, .inl f)), (sb, .inr (13, [.ref bv9, .int 0, .int u.1, .int (nI u.2.1.length)])), (bv9, .inl (cB, u.2.2.1, .inl u.2.2.2.1)), (dc, .inl (cV, 3, .inr (.inr (.inr (.inr u.2.2.2.2.2)))))] ++ (u.2.2.2.2.1 ++ fz)) t.heap ∧ va_K (dC, dI) vwCl [(cC, .char), (cB, .byte), (cO, .object "java/lang/Object"), (cV, .object "PatchStore$Value")] t ∧ va_D (va_A ([(x, .inr (0, [.int (nI lim), .int (nI rm), .ref dl, .int (nI L.length), .ref sb, .ref dc, .ref cm, .ref fo])), (dl, .inl (cC, 160, .inl f)), (sb, .inr (13, [.ref bv, .int 0, .int ml, .int (nI tx.length)])), (bv, .inl (cB, cap, .inl g)), (dc, .inl (cV, 3, .inr (.inr (.inr (.inr h)))))] ++ fz) sz) ([(x, .inr (0, [.int (nI lim), .int (nI rm), .ref dl, .int 0, .ref sb, .ref dc, .ref cm, .ref fo])), (dl, .inl (cC, 160, .inl f)), (sb, .inr (13, [.ref bv9, .int 0, .int u.1, .int (nI u.2.1.length)])), (bv9, .inl (cB, u.2.2.1, .inl u.2.2.2.1)), (dc, .inl (cV, 3, .inr (.inr (.inr (.inr u.2.2.2.2.2)))))] ++ (u.2.2.2.2.1 ++ fz))) (va_A ([(x, .inr (0, [.int (nI lim), .int (nI rm), .ref dl, .int (nI L.length), .ref sb, .ref dc, .ref cm, .ref fo])), (dl, .inl (cC, 160, .inl f)), (sb, .inr (13, [.ref bv, .int 0, .int ml, .int (nI tx.length)])), (bv, .inl (cB, cap, .inl g)), (dc, .inl (cV, 3, .inr (.inr (.inr (.inr h)))))] ++ fz) sz)) (6 * L.length + 6) (340 * L.length + 181) (va_A ([(x, .inr (0, [.int (nI lim), .int (nI rm), .ref dl, .int (nI L.length), .ref sb, .ref dc, .ref cm, .ref fo])), (dl, .inl (cC, 160, .inl f)), (sb, .inr (13, [.ref bv, .int 0, .int ml, .int (nI tx.length)])), (bv, .inl (cB, cap, .inl g)), (dc, .inl (cV, 3, .inr (.inr (.inr (.inr h)))))] ++ fz) sz) := by
  refine Met.ofW (cc := c_PS_put) (maxL := 5) (ret := (some .int)) (by decide) rfl ?_
  intro p e s m args below meth c s₁ B hml hv
  obtain ⟨hargs, hsz, hP, hK, hD0, hE⟩ := hv
  rw [show entryFrame m args 5 = entryFrame m ([.ref x, .int k]).toArray 5 by rw [hargs]]
  have hx := B.exec
  have hb := B.bytes
  have hr := B.returns
  have hts := atoms_spec (ws := ws_PS_put) B.pre
  have htb := fun w (h : w ∈ TBL) => hts w (List.mem_cons_of_mem _ h)
  have hown : s.vm.findClass R_PS = some m.cls := findClass_of_methodNamed B.named
  have hlocks := B.notSynchronized
  subst hsz
  have hD := hD0.self (sz := s.heap.size)
  generalize hAe : va_A ([(x, .inr (0, [.int (nI lim), .int (nI rm), .ref dl, .int (nI L.length), .ref sb, .ref dc, .ref cm, .ref fo])), (dl, .inl (cC, 160, .inl f)), (sb, .inr (13, [.ref bv, .int 0, .int ml, .int (nI tx.length)])), (bv, .inl (cB, cap, .inl g)), (dc, .inl (cV, 3, .inr (.inr (.inr (.inr h)))))] ++ fz) s.heap.size = A at hD hE ⊢
  have hA : ∀ q : Nat, s.heap.size ≤ q → A q := fun q h => by rw [← hAe]; exact Or.inr h
  have hS : va_S A s.heap s.heap [] := va_S.rf
  have hP : va_P (dC, dI) vwCl ([(x, .inr (0, [.int (nI lim), .int (nI rm), .ref dl, .int (nI L.length), .ref sb, .ref dc, .ref cm, .ref fo])), (dl, .inl (cC, 160, .inl f)), (sb, .inr (13, [.ref bv, .int 0, .int ml, .int (nI tx.length)])), (bv, .inl (cB, cap, .inl g)), (dc, .inl (cV, 3, .inr (.inr (.inr (.inr h)))))] ++ fz) s.heap := hP
  have hl := lv_entry ([.ref x, .int k]) (n := 5) (Nat.le_of_ble_eq_true rfl)
  rw [lg_entry_eq]
  generalize (lg_sl ([.ref x, .int k]) ++ List.replicate (5 - (lg_sl ([.ref x, .int k])).length) Slot.unset).toArray = ls at hl ⊢
  have hl : lv_has ls 5 [(0, .ref x), (1, .int k)] := hl
  refine zz_nQ (fun Q hQ => ?_)
  have h160 : L.length ≤ 160 := hL.1
  refine lv_aload_n hx hb d_PS_put_0 rfl (lv_at hl 0 rfl) ?_
  have hPc := hP.sub (ws' := [(x, .inr (0, [.int (nI lim), .int (nI rm), .ref dl, .int (nI L.length), .ref sb, .ref dc, .ref cm, .ref fo]))]) [0] rfl
  have hDc := hD.sub (ws' := [(x, .inr (0, [.int (nI lim), .int (nI rm), .ref dl, .int (nI L.length), .ref sb, .ref dc, .ref cm, .ref fo]))]) [0] (by decide) rfl
  have hFc := va_free (wc := [(x, .inr (0, [.int (nI lim), .int (nI rm), .ref dl, .int (nI L.length), .ref sb, .ref dc, .ref cm, .ref fo]))]) hD hS hA [0] rfl
  have hKc := hK.sub (tys' := []) [] rfl
  refine va_callr (va_runV (As := []) (rest := []) ⟨hx, hb, hml, hown, htb⟩ (k_PS_takeDraft l dC dI _ x (nI lim) (nI rm) dl sb dc cm fo (nI L.length) ) (cwV 0 htb (g_V (fun _ h => h) m_135 m_132 m_134 m_1626 m_1) rfl rfl rfl (by decide +kernel) ⟨Nat.le_of_ble_eq_true rfl, Nat.le_of_ble_eq_true rfl⟩) ⟨fun a U g mk q => by obtain ⟨q0, q1, qP, qK, qD⟩ := q; exact ⟨q0, q1, qP, va_K.moved (u := U) (U := U.calling g mk a) (Vm.Alike.refl U.vm) qK, qD⟩, va_recv hK hP (ci := 0) rfl (q0 := 0) rfl, fun U hU hW => ⟨rfl, by rw [hU], by rw [hU]; exact hPc, va_K.moved hW.alike hKc, hDc.weaken (fun _ _ _ _ => trivial)⟩⟩ rfl rfl hl.1 rfl (lv_room (Nat.le_of_ble_eq_true rfl)) d_PS_put_1 ⟨(by show 1 ≤ (6 * L.length + 6); omega), (by show 4 ≤ (340 * L.length + 181); omega)⟩) hS (fun q _ h => hFc q h) hFc (fun u1 ra4 t H1 locs ht hvm hw3 hB hz1 hk1 hS => ?_)
  obtain ⟨hP1, hK1, hD1⟩ := hB
  rw [ht] at hP1
  have hK1 := va_K.moved hvm.symm hK1
  have hw3 : True := hw3
  obtain ⟨hP, hD⟩ := zz_joinN (pre := [(x, .inr (0, [.int (nI lim), .int (nI rm), .ref dl, .int (nI L.length), .ref sb, .ref dc, .ref cm, .ref fo])), (dl, .inl (cC, 160, .inl f)), (sb, .inr (13, [.ref bv, .int 0, .int ml, .int (nI tx.length)])), (bv, .inl (cB, cap, .inl g)), (dc, .inl (cV, 3, .inr (.inr (.inr (.inr h)))))]) (fz := fz) (wc := [(x, .inr (0, [.int (nI lim), .int (nI rm), .ref dl, .int (nI L.length), .ref sb, .ref dc, .ref cm, .ref fo]))]) (wr := [(dl, .inl (cC, 160, .inl f)), (sb, .inr (13, [.ref bv, .int 0, .int ml, .int (nI tx.length)])), (bv, .inl (cB, cap, .inl g)), (dc, .inl (cV, 3, .inr (.inr (.inr (.inr h)))))]) (w1 := [(x, .inr (0, [.int (nI lim), .int (nI rm), .ref dl, .int 0, .ref sb, .ref dc, .ref cm, .ref fo])), (ra4, .inr (1, [.ref dl, .int (nI L.length), .int 0, .ref sb]))]) hP hD [0] [1, 2, 3, 4] rfl rfl (by decide) (by decide) hk1 hFc hP1 hD1
  have hK := (hK.sub (tys' := [(cC, .char), (cB, .byte), (cO, .object "java/lang/Object"), (cV, .object "PatchStore$Value")]) [0, 1, 2, 3] rfl).app hK1
  generalize H1 = H at hP hS ⊢
  have hP : va_P (dC, dI) vwCl ([(dl, .inl (cC, 160, .inl f)), (sb, .inr (13, [.ref bv, .int 0, .int ml, .int (nI tx.length)])), (bv, .inl (cB, cap, .inl g)), (dc, .inl (cV, 3, .inr (.inr (.inr (.inr h))))), (x, .inr (0, [.int (nI lim), .int (nI rm), .ref dl, .int 0, .ref sb, .ref dc, .ref cm, .ref fo])), (ra4, .inr (1, [.ref dl, .int (nI L.length), .int 0, .ref sb]))] ++ fz) H := hP
  have hD : va_D A ([(dl, .inl (cC, 160, .inl f)), (sb, .inr (13, [.ref bv, .int 0, .int ml, .int (nI tx.length)])), (bv, .inl (cB, cap, .inl g)), (dc, .inl (cV, 3, .inr (.inr (.inr (.inr h))))), (x, .inr (0, [.int (nI lim), .int (nI rm), .ref dl, .int 0, .ref sb, .ref dc, .ref cm, .ref fo])), (ra4, .inr (1, [.ref dl, .int (nI L.length), .int 0, .ref sb]))] ++ fz) := hD
  have hK : va_K (dC, dI) vwCl [(cC, .char), (cB, .byte), (cO, .object "java/lang/Object"), (cV, .object "PatchStore$Value")] s := hK
  refine W.widen (k := 1) (n := 4) (Nat.le_of_ble_eq_true rfl) (Nat.le_of_ble_eq_true rfl) ?_
  refine lv_astore_n hx hb d_PS_put_4 rfl hl (by decide) rfl (fun ls hl => ?_)
  have hl : lv_has ls 5 [(2, .ref ra4), (0, .ref x), (1, .int k)] := hl
  refine lv_iload_n hx hb d_PS_put_5 rfl (lv_at hl 2 rfl) ?_
  refine lv_if_lt (tgt := 14) hx hb d_PS_put_6 rfl (fun h1 => ?_) (fun h1 => ?_)
  · refine lv_iconst (v := (-1)) hx hb d_PS_put_14 (by decide) ?_
    have hP9 := zz_pickP (pre := [(dl, .inl (cC, 160, .inl f)), (sb, .inr (13, [.ref bv, .int 0, .int ml, .int (nI tx.length)])), (bv, .inl (cB, cap, .inl g)), (dc, .inl (cV, 3, .inr (.inr (.inr (.inr h))))), (x, .inr (0, [.int (nI lim), .int (nI rm), .ref dl, .int 0, .ref sb, .ref dc, .ref cm, .ref fo])), (ra4, .inr (1, [.ref dl, .int (nI L.length), .int 0, .ref sb]))]) (fz := fz) (wc := [(x, .inr (0, [.int (nI lim), .int (nI rm), .ref dl, .int 0, .ref sb, .ref dc, .ref cm, .ref fo])), (dl, .inl (cC, 160, .inl f)), (sb, .inr (13, [.ref bv, .int 0, .int ml, .int (nI tx.length)])), (bv, .inl (cB, cap, .inl g)), (dc, .inl (cV, 3, .inr (.inr (.inr (.inr h)))))]) hP [4, 0, 1, 2, 3] rfl
    have hD9 := zz_pickD (pre := [(dl, .inl (cC, 160, .inl f)), (sb, .inr (13, [.ref bv, .int 0, .int ml, .int (nI tx.length)])), (bv, .inl (cB, cap, .inl g)), (dc, .inl (cV, 3, .inr (.inr (.inr (.inr h))))), (x, .inr (0, [.int (nI lim), .int (nI rm), .ref dl, .int 0, .ref sb, .ref dc, .ref cm, .ref fo])), (ra4, .inr (1, [.ref dl, .int (nI L.length), .int 0, .ref sb]))]) (fz := fz) (wc := [(x, .inr (0, [.int (nI lim), .int (nI rm), .ref dl, .int 0, .ref sb, .ref dc, .ref cm, .ref fo])), (dl, .inl (cC, 160, .inl f)), (sb, .inr (13, [.ref bv, .int 0, .int ml, .int (nI tx.length)])), (bv, .inl (cB, cap, .inl g)), (dc, .inl (cV, 3, .inr (.inr (.inr (.inr h)))))]) hD [4, 0, 1, 2, 3] (by decide) rfl
    have hK9 := hK.sub (tys' := [(cC, .char), (cB, .byte), (cO, .object "java/lang/Object"), (cV, .object "PatchStore$Value")]) [0, 1, 2, 3] rfl
    rw [hQ]
    refine W.widen (k := (6 * L.length + 6)) (n := (340 * L.length + 181)) ((by show 1 ≤ (6 * L.length + 6); omega)) ((by show 4 ≤ (340 * L.length + 181); omega)) ?_
    exact W.iret (v := (-1)) hx hb hr (fun t ht hW => ⟨⟨(-1), (ml, tx, cap, g, [], h), rfl, ⟨hB, Or.inl ⟨⟨Or.inl h1, rfl⟩, rfl⟩⟩, ⟨bv, by rw [ht]; exact hP9, va_K.moved hW.alike hK9, hD9⟩⟩, hS.F ht⟩) hS.2.2 d_PS_put_15
  · refine lv_iload_n hx hb d_PS_put_9 rfl (lv_at hl 2 rfl) ?_
    refine lv_iconst (v := 3) hx hb d_PS_put_10 (by decide) ?_
    refine lv_icmp_lt (tgt := 16) hx hb d_PS_put_11 rfl (fun h2 => ?_) (fun h2 => ?_)
    · have h2 : ¬ 3 ≤ k := Int32.not_le.mpr h2
      refine va_new (ci := 2) (fs := [.null, .int 0, .int 0]) (C := R_JR) (T := T_JR) (N := 3) hx hb htb in_JR ty_JR ty_JR_ok hown (htb _ m_155) (htb _ m_156) (htb _ m_11) hK hP hD hS hA rfl (fun j hj => by rcases (show j = 0 ∨ j = 1 ∨ j = 2 by omega) with rfl | rfl | rfl <;> rfl) ((by show 2 ≤ (6 * L.length + 6); omega)) ((by show 7 ≤ (340 * L.length + 181); omega)) d_PS_put_16 (fun jj H hP hD hS => ?_)
      have hP := zz_rotP (pre := [(dl, .inl (cC, 160, .inl f)), (sb, .inr (13, [.ref bv, .int 0, .int ml, .int (nI tx.length)])), (bv, .inl (cB, cap, .inl g)), (dc, .inl (cV, 3, .inr (.inr (.inr (.inr h))))), (x, .inr (0, [.int (nI lim), .int (nI rm), .ref dl, .int 0, .ref sb, .ref dc, .ref cm, .ref fo])), (ra4, .inr (1, [.ref dl, .int (nI L.length), .int 0, .ref sb]))]) (fz := fz) hP
      have hD := zz_rotD (pre := [(dl, .inl (cC, 160, .inl f)), (sb, .inr (13, [.ref bv, .int 0, .int ml, .int (nI tx.length)])), (bv, .inl (cB, cap, .inl g)), (dc, .inl (cV, 3, .inr (.inr (.inr (.inr h))))), (x, .inr (0, [.int (nI lim), .int (nI rm), .ref dl, .int 0, .ref sb, .ref dc, .ref cm, .ref fo])), (ra4, .inr (1, [.ref dl, .int (nI L.length), .int 0, .ref sb]))]) (fz := fz) hD
      have hP : va_P (dC, dI) vwCl ([(dl, .inl (cC, 160, .inl f)), (sb, .inr (13, [.ref bv, .int 0, .int ml, .int (nI tx.length)])), (bv, .inl (cB, cap, .inl g)), (dc, .inl (cV, 3, .inr (.inr (.inr (.inr h))))), (x, .inr (0, [.int (nI lim), .int (nI rm), .ref dl, .int 0, .ref sb, .ref dc, .ref cm, .ref fo])), (ra4, .inr (1, [.ref dl, .int (nI L.length), .int 0, .ref sb])), (jj, .inr (2, [.null, .int 0, .int 0]))] ++ fz) H := hP
      have hD : va_D A ([(dl, .inl (cC, 160, .inl f)), (sb, .inr (13, [.ref bv, .int 0, .int ml, .int (nI tx.length)])), (bv, .inl (cB, cap, .inl g)), (dc, .inl (cV, 3, .inr (.inr (.inr (.inr h))))), (x, .inr (0, [.int (nI lim), .int (nI rm), .ref dl, .int 0, .ref sb, .ref dc, .ref cm, .ref fo])), (ra4, .inr (1, [.ref dl, .int (nI L.length), .int 0, .ref sb])), (jj, .inr (2, [.null, .int 0, .int 0]))] ++ fz) := hD
      refine W.widen (k := 2) (n := 7) (Nat.le_of_ble_eq_true rfl) (Nat.le_of_ble_eq_true rfl) ?_
      refine lv_dup hx hb d_PS_put_19 rfl ?_
      refine lv_aload_n hx hb d_PS_put_20 rfl (lv_at hl 0 rfl) ?_
      refine lv_aload_n hx hb d_PS_put_21 rfl (lv_at hl 1 rfl) ?_
      refine va_get (D := (dC, dI)) (ci := 0) (v := .int (nI lim)) (C := R_PS) (T := T_PS) (N := 8) hx hb htb in_PS hown hK hP 4 rfl rfl 0 (by decide) (htb _ m_99) (fun _ h9 => h9) rfl d_PS_put_22 ?_
      have hPc := hP.sub (ws' := [(jj, .inr (2, [.null, .int 0, .int 0]))]) [6] rfl
      have hDc := hD.sub (ws' := [(jj, .inr (2, [.null, .int 0, .int 0]))]) [6] (by decide) rfl
      have hFc := va_free (wc := [(jj, .inr (2, [.null, .int 0, .int 0]))]) hD hS hA [6] rfl
      have hKc := hK.sub (tys' := []) [] rfl
      refine va_callv (va_runI (As := [.ref ra4, .int (nI lim)]) (rest := [.ref jj]) ⟨hx, hb, hml, hown, htb⟩ (k_JR_init l dC dI _ jj ra4 (nI lim) ) (cwI 2 htb (g_all (fun _ h => h) m_159) rfl rfl rfl (htb _ m_11) (htb _ m_157) (htb _ m_158) rfl (by decide +kernel) ⟨Nat.le_of_ble_eq_true rfl, Nat.le_of_ble_eq_true rfl⟩) ⟨fun a U g mk q => by obtain ⟨q0, q1, qP, qK, qD⟩ := q; exact ⟨q0, q1, qP, va_K.moved (u := U) (U := U.calling g mk a) (Vm.Alike.refl U.vm) qK, qD⟩, fun U hU hW => ⟨rfl, by rw [hU], by rw [hU]; exact hPc, va_K.moved hW.alike hKc, hDc.weaken (fun _ _ _ _ => trivial)⟩⟩ rfl rfl hl.1 rfl (lv_room (Nat.le_of_ble_eq_true rfl)) d_PS_put_25 ⟨(by show 2 ≤ (6 * L.length + 6); omega), (by show 7 ≤ (340 * L.length + 181); omega)⟩) hS (fun q _ h => hFc q h) hFc (fun u5 t H1 locs ht hvm hw7 hB hz1 hk1 hS => ?_)
      obtain ⟨hP1, hK1, hD1⟩ := hB
      rw [ht] at hP1
      have hK1 := va_K.moved hvm.symm hK1
      have hw7 : True := hw7
      obtain ⟨hP, hD⟩ := zz_joinN (pre := [(dl, .inl (cC, 160, .inl f)), (sb, .inr (13, [.ref bv, .int 0, .int ml, .int (nI tx.length)])), (bv, .inl (cB, cap, .inl g)), (dc, .inl (cV, 3, .inr (.inr (.inr (.inr h))))), (x, .inr (0, [.int (nI lim), .int (nI rm), .ref dl, .int 0, .ref sb, .ref dc, .ref cm, .ref fo])), (ra4, .inr (1, [.ref dl, .int (nI L.length), .int 0, .ref sb])), (jj, .inr (2, [.null, .int 0, .int 0]))]) (fz := fz) (wc := [(jj, .inr (2, [.null, .int 0, .int 0]))]) (wr := [(dl, .inl (cC, 160, .inl f)), (sb, .inr (13, [.ref bv, .int 0, .int ml, .int (nI tx.length)])), (bv, .inl (cB, cap, .inl g)), (dc, .inl (cV, 3, .inr (.inr (.inr (.inr h))))), (x, .inr (0, [.int (nI lim), .int (nI rm), .ref dl, .int 0, .ref sb, .ref dc, .ref cm, .ref fo])), (ra4, .inr (1, [.ref dl, .int (nI L.length), .int 0, .ref sb]))]) (w1 := [(jj, .inr (2, [.ref ra4, .int (nI lim), .int 1]))]) hP hD [6] [0, 1, 2, 3, 4, 5] rfl rfl (by decide) (by decide) hk1 hFc hP1 hD1
      have hK := (hK.sub (tys' := [(cC, .char), (cB, .byte), (cO, .object "java/lang/Object"), (cV, .object "PatchStore$Value")]) [0, 1, 2, 3] rfl).app hK1
      generalize H1 = H at hP hS ⊢
      have hP : va_P (dC, dI) vwCl ([(dl, .inl (cC, 160, .inl f)), (sb, .inr (13, [.ref bv, .int 0, .int ml, .int (nI tx.length)])), (bv, .inl (cB, cap, .inl g)), (dc, .inl (cV, 3, .inr (.inr (.inr (.inr h))))), (x, .inr (0, [.int (nI lim), .int (nI rm), .ref dl, .int 0, .ref sb, .ref dc, .ref cm, .ref fo])), (ra4, .inr (1, [.ref dl, .int (nI L.length), .int 0, .ref sb])), (jj, .inr (2, [.ref ra4, .int (nI lim), .int 1]))] ++ fz) H := hP
      have hD : va_D A ([(dl, .inl (cC, 160, .inl f)), (sb, .inr (13, [.ref bv, .int 0, .int ml, .int (nI tx.length)])), (bv, .inl (cB, cap, .inl g)), (dc, .inl (cV, 3, .inr (.inr (.inr (.inr h))))), (x, .inr (0, [.int (nI lim), .int (nI rm), .ref dl, .int 0, .ref sb, .ref dc, .ref cm, .ref fo])), (ra4, .inr (1, [.ref dl, .int (nI L.length), .int 0, .ref sb])), (jj, .inr (2, [.ref ra4, .int (nI lim), .int 1]))] ++ fz) := hD
      have hK : va_K (dC, dI) vwCl [(cC, .char), (cB, .byte), (cO, .object "java/lang/Object"), (cV, .object "PatchStore$Value")] s := hK
      refine lv_astore_n hx hb d_PS_put_28 rfl hl (by decide) rfl (fun ls hl => ?_)
      have hl : lv_has ls 5 [(3, .ref jj), (2, .ref ra4), (0, .ref x), (1, .int k)] := hl
      refine lv_aload_n hx hb d_PS_put_29 rfl (lv_at hl 0 rfl) ?_
      have hd0 : L.drop 0 = L := rfl
      have hPc := zz_pickP (pre := [(dl, .inl (cC, 160, .inl f)), (sb, .inr (13, [.ref bv, .int 0, .int ml, .int (nI tx.length)])), (bv, .inl (cB, cap, .inl g)), (dc, .inl (cV, 3, .inr (.inr (.inr (.inr h))))), (x, .inr (0, [.int (nI lim), .int (nI rm), .ref dl, .int 0, .ref sb, .ref dc, .ref cm, .ref fo])), (ra4, .inr (1, [.ref dl, .int (nI L.length), .int 0, .ref sb])), (jj, .inr (2, [.ref ra4, .int (nI lim), .int 1]))]) (fz := fz) (wc := [(jj, .inr (2, [.ref ra4, .int (nI lim), .int 1])), (ra4, .inr (1, [.ref dl, .int (nI L.length), .int (nI 0), .ref sb])), (dl, .inl (cC, 160, .inl f)), (sb, .inr (13, [.ref bv, .int 0, .int ml, .int (nI tx.length)])), (bv, .inl (cB, cap, .inl g))]) hP [6, 5, 0, 1, 2] rfl
      have hDc := zz_pickD (pre := [(dl, .inl (cC, 160, .inl f)), (sb, .inr (13, [.ref bv, .int 0, .int ml, .int (nI tx.length)])), (bv, .inl (cB, cap, .inl g)), (dc, .inl (cV, 3, .inr (.inr (.inr (.inr h))))), (x, .inr (0, [.int (nI lim), .int (nI rm), .ref dl, .int 0, .ref sb, .ref dc, .ref cm, .ref fo])), (ra4, .inr (1, [.ref dl, .int (nI L.length), .int 0, .ref sb])), (jj, .inr (2, [.ref ra4, .int (nI lim), .int 1]))]) (fz := fz) (wc := [(jj, .inr (2, [.ref ra4, .int (nI lim), .int 1])), (ra4, .inr (1, [.ref dl, .int (nI L.length), .int (nI 0), .ref sb])), (dl, .inl (cC, 160, .inl f)), (sb, .inr (13, [.ref bv, .int 0, .int ml, .int (nI tx.length)])), (bv, .inl (cB, cap, .inl g))]) hD [6, 5, 0, 1, 2] (by decide) rfl
      have hFc := zz_free (pre := [(dl, .inl (cC, 160, .inl f)), (sb, .inr (13, [.ref bv, .int 0, .int ml, .int (nI tx.length)])), (bv, .inl (cB, cap, .inl g)), (dc, .inl (cV, 3, .inr (.inr (.inr (.inr h))))), (x, .inr (0, [.int (nI lim), .int (nI rm), .ref dl, .int 0, .ref sb, .ref dc, .ref cm, .ref fo])), (ra4, .inr (1, [.ref dl, .int (nI L.length), .int 0, .ref sb])), (jj, .inr (2, [.ref ra4, .int (nI lim), .int 1]))]) (fz := fz) (wc := [(jj, .inr (2, [.ref ra4, .int (nI lim), .int 1])), (ra4, .inr (1, [.ref dl, .int (nI L.length), .int (nI 0), .ref sb])), (dl, .inl (cC, 160, .inl f)), (sb, .inr (13, [.ref bv, .int 0, .int ml, .int (nI tx.length)])), (bv, .inl (cB, cap, .inl g))]) hD hS hA [6, 5, 0, 1, 2] rfl
      have hKc := hK.sub (tys' := [(cC, .char), (cB, .byte), (cO, .object "java/lang/Object")]) [0, 1, 2] rfl
      refine va_callq (va_runV (As := []) (rest := []) ⟨hx, hb, hml, hown, htb⟩ (k_JR_whole l dC dI _ jj lim ra4 dl sb cC f L 0 bv ml cB g cap tx em aK aV cO fz hL (Nat.zero_le _) hB hlim) (cwV 0 htb (g_V (fun _ h => h) m_175 m_172 m_173 m_174 m_11) rfl rfl rfl (by decide +kernel) ⟨(by show ((11 + 4 * lim) + 1) ≤ 80; omega), (by show (21 + (330 + 200 * lim)) ≤ 3000; omega)⟩) ⟨fun a U g mk q => by obtain ⟨q0, q1, qP, qK, qD, z0⟩ := q; exact ⟨q0, q1, qP, va_K.moved (u := U) (U := U.calling g mk a) (Vm.Alike.refl U.vm) qK, qD, EX.same (U := U) (U' := U.calling g mk a) rfl z0⟩, va_recv hK hP (ci := 2) rfl (q0 := 6) rfl, fun U hU hW => ⟨rfl, by rw [hU], by rw [hU]; exact hPc, va_K.moved hW.alike hKc, hDc.weaken (fun _ _ _ _ => trivial), by rw [hU]; exact EX.warm hW ((hE.kept (fun a h1 h2 => hS.2.1 a h1 h2)).narrow hFc)⟩⟩ rfl rfl hl.1 rfl (lv_room (Nat.le_of_ble_eq_true rfl)) d_PS_put_30 ⟨(by show (2 + (6 * (L.length - 0) + 4)) ≤ (6 * L.length + 6); omega), (by show (7 + (340 * (L.length - 0) + 174)) ≤ (340 * L.length + 181); omega)⟩) hS (fun q _ h => hFc q h) hFc (fun r10 u9 t H1 locs ht hvm hw11 hB hz1 hk1 hS => ?_)
      obtain ⟨x13, hP1, hK1, hD1⟩ := hB
      rw [ht] at hP1
      have hK1 := va_K.moved hvm.symm hK1
      obtain ⟨w14, w15, w16, w17, w18, w19, w20⟩ := u9
      have hw11 : Bld w16 w17 w18 ∧ w14 ≤ L.length ∧ ((r10 = none ∧ ¬ (whl lim (L.drop 0)).1 = 0 ∧ w20 = nI (whl lim (L.drop 0)).1) ∨ ∃ y8 w8, r10 = some y8 ∧ whl lim (L.drop 0) = (0, w8) ∧ w20 = 1 ∧ VT cB cO em aK (lim + 1) w19 y8 [] w8) := hw11
      obtain ⟨hP, hD⟩ := zz_join (pre := [(dl, .inl (cC, 160, .inl f)), (sb, .inr (13, [.ref bv, .int 0, .int ml, .int (nI tx.length)])), (bv, .inl (cB, cap, .inl g)), (dc, .inl (cV, 3, .inr (.inr (.inr (.inr h))))), (x, .inr (0, [.int (nI lim), .int (nI rm), .ref dl, .int 0, .ref sb, .ref dc, .ref cm, .ref fo])), (ra4, .inr (1, [.ref dl, .int (nI L.length), .int 0, .ref sb])), (jj, .inr (2, [.ref ra4, .int (nI lim), .int 1]))]) (fz := fz) (wc := [(jj, .inr (2, [.ref ra4, .int (nI lim), .int 1])), (ra4, .inr (1, [.ref dl, .int (nI L.length), .int (nI 0), .ref sb])), (dl, .inl (cC, 160, .inl f)), (sb, .inr (13, [.ref bv, .int 0, .int ml, .int (nI tx.length)])), (bv, .inl (cB, cap, .inl g))]) (wr := [(dc, .inl (cV, 3, .inr (.inr (.inr (.inr h))))), (x, .inr (0, [.int (nI lim), .int (nI rm), .ref dl, .int 0, .ref sb, .ref dc, .ref cm, .ref fo]))]) (w1 := ([(jj, .inr (2, [.ref ra4, .int (nI lim), .int w20])), (ra4, .inr (1, [.ref dl, .int (nI L.length), .int (nI w14), .ref sb])), (dl, .inl (cC, 160, .inl f)), (sb, .inr (13, [.ref x13, .int 0, .int w15, .int (nI w16.length)])), (x13, .inl (cB, w17, .inl w18))] ++ (w19 ++ fz))) hP hD [6, 5, 0, 1, 2] [3, 4] rfl rfl (by decide) (by decide) hk1 hFc hP1 hD1
      have hK := (hK.sub (tys' := [(cV, .object "PatchStore$Value")]) [3] rfl).app hK1
      generalize H1 = H at hP hS ⊢
      have hP : va_P (dC, dI) vwCl ([(dc, .inl (cV, 3, .inr (.inr (.inr (.inr h))))), (x, .inr (0, [.int (nI lim), .int (nI rm), .ref dl, .int 0, .ref sb, .ref dc, .ref cm, .ref fo])), (jj, .inr (2, [.ref ra4, .int (nI lim), .int w20])), (ra4, .inr (1, [.ref dl, .int (nI L.length), .int (nI w14), .ref sb])), (dl, .inl (cC, 160, .inl f)), (sb, .inr (13, [.ref x13, .int 0, .int w15, .int (nI w16.length)])), (x13, .inl (cB, w17, .inl w18))] ++ (w19 ++ fz)) H := hP
      have hD : va_D A ([(dc, .inl (cV, 3, .inr (.inr (.inr (.inr h))))), (x, .inr (0, [.int (nI lim), .int (nI rm), .ref dl, .int 0, .ref sb, .ref dc, .ref cm, .ref fo])), (jj, .inr (2, [.ref ra4, .int (nI lim), .int w20])), (ra4, .inr (1, [.ref dl, .int (nI L.length), .int (nI w14), .ref sb])), (dl, .inl (cC, 160, .inl f)), (sb, .inr (13, [.ref x13, .int 0, .int w15, .int (nI w16.length)])), (x13, .inl (cB, w17, .inl w18))] ++ (w19 ++ fz)) := hD
      have hK : va_K (dC, dI) vwCl [(cV, .object "PatchStore$Value"), (cC, .char), (cB, .byte), (cO, .object "java/lang/Object")] s := hK
      obtain ⟨hB21, -, ⟨rfl, hn1, hn2⟩ | ⟨y8, w8, rfl, hp1, hp2, hp3⟩⟩ := hw11
      · have hpc : putC lim rm L = (whl lim L).1 := if_neg hn1
        refine W.eq (g2 := F0 m 33 ls [.null]) rfl ?_
        refine lv_astoreN hx hb d_PS_put_33 hl (by decide) rfl (fun ls hl => ?_)
        have hl : lv_has ls 5 [(4, .null), (3, .ref jj), (2, .ref ra4), (0, .ref x), (1, .int k)] := hl
        refine lv_aloadN hx hb d_PS_put_35 (lv_at hl 0 rfl) ?_
        refine lv_ifnonnullN hx hb d_PS_put_37 ?_
        refine lv_aload_n hx hb d_PS_put_40 rfl (lv_at hl 1 rfl) ?_
        refine va_getN (D := (dC, dI)) (ci := 2) (v := .int w20) (C := R_JR) (T := T_JR) (N := 3) hx hb htb in_JR hown hK hP 2 rfl rfl 2 (by decide) (va_Nw.use rfl (nw_0 hE)) (fun _ h9 => h9) rfl d_PS_put_41 ?_
        have hP9 := zz_pickP (pre := [(dc, .inl (cV, 3, .inr (.inr (.inr (.inr h))))), (x, .inr (0, [.int (nI lim), .int (nI rm), .ref dl, .int 0, .ref sb, .ref dc, .ref cm, .ref fo])), (jj, .inr (2, [.ref ra4, .int (nI lim), .int w20])), (ra4, .inr (1, [.ref dl, .int (nI L.length), .int (nI w14), .ref sb])), (dl, .inl (cC, 160, .inl f)), (sb, .inr (13, [.ref x13, .int 0, .int w15, .int (nI w16.length)])), (x13, .inl (cB, w17, .inl w18))]) (fz := (w19 ++ fz)) (wc := [(x, .inr (0, [.int (nI lim), .int (nI rm), .ref dl, .int 0, .ref sb, .ref dc, .ref cm, .ref fo])), (dl, .inl (cC, 160, .inl f)), (sb, .inr (13, [.ref x13, .int 0, .int w15, .int (nI w16.length)])), (x13, .inl (cB, w17, .inl w18)), (dc, .inl (cV, 3, .inr (.inr (.inr (.inr h)))))]) hP [1, 4, 5, 6, 0] rfl
        have hD9 := zz_pickD (pre := [(dc, .inl (cV, 3, .inr (.inr (.inr (.inr h))))), (x, .inr (0, [.int (nI lim), .int (nI rm), .ref dl, .int 0, .ref sb, .ref dc, .ref cm, .ref fo])), (jj, .inr (2, [.ref ra4, .int (nI lim), .int w20])), (ra4, .inr (1, [.ref dl, .int (nI L.length), .int (nI w14), .ref sb])), (dl, .inl (cC, 160, .inl f)), (sb, .inr (13, [.ref x13, .int 0, .int w15, .int (nI w16.length)])), (x13, .inl (cB, w17, .inl w18))]) (fz := (w19 ++ fz)) (wc := [(x, .inr (0, [.int (nI lim), .int (nI rm), .ref dl, .int 0, .ref sb, .ref dc, .ref cm, .ref fo])), (dl, .inl (cC, 160, .inl f)), (sb, .inr (13, [.ref x13, .int 0, .int w15, .int (nI w16.length)])), (x13, .inl (cB, w17, .inl w18)), (dc, .inl (cV, 3, .inr (.inr (.inr (.inr h)))))]) hD [1, 4, 5, 6, 0] (by decide) rfl
        have hK9 := hK.sub (tys' := [(cC, .char), (cB, .byte), (cO, .object "java/lang/Object"), (cV, .object "PatchStore$Value")]) [1, 2, 3, 0] rfl
        rw [hQ]
        refine W.widen (k := (6 * L.length + 6)) (n := (340 * L.length + 181)) ((by show (2 + (6 * (L.length - 0) + 4)) ≤ (6 * L.length + 6); omega)) ((by show (7 + (340 * (L.length - 0) + 174)) ≤ (340 * L.length + 181); omega)) ?_
        exact W.iret (v := w20) hx hb hr (fun t ht hW => ⟨⟨w20, (w15, w16, w17, w18, w19, h), rfl, ⟨hB21, Or.inr ⟨fun h9 => h9.elim h1 h2, by rw [hpc]; exact hn2, Or.inl ⟨by rw [hpc]; exact hn1, rfl⟩⟩⟩, ⟨x13, by rw [ht]; exact hP9, va_K.moved hW.alike hK9, hD9⟩⟩, hS.F ht⟩) hS.2.2 d_PS_put_44
      · have hp4 : (whl lim L).2 = w8 := congrArg Prod.snd hp1
        have hp0 : (whl lim L).1 = 0 := congrArg Prod.fst hp1
        refine W.eq (g2 := F0 m 33 ls [.ref y8]) rfl ?_
        refine lv_astore hx hb d_PS_put_33 hl (by decide) rfl (fun ls hl => ?_)
        have hl : lv_has ls 5 [(4, .ref y8), (3, .ref jj), (2, .ref ra4), (0, .ref x), (1, .int k)] := hl
        refine lv_aload hx hb d_PS_put_35 (lv_at hl 0 rfl) ?_
        refine lv_ifnonnull (tgt := 45) hx hb d_PS_put_37 rfl ?_
        obtain ⟨d0, kd0, tx0, nu0, nm0, pa0, dp0, cn0, hm0, hdp0, hcn0⟩ := hp3.cell
        rw [hcn0] at hm0
        have hm1 := List.mem_append_left fz hm0
        have hwl : w8.length < 2 ^ 31 := by have := whl_cnt lim L; rw [hp4] at this; omega
        refine lv_aload hx hb d_PS_put_45 (lv_at hl 0 rfl) ?_
        obtain ⟨qz22, hz22⟩ := List.getElem?_of_mem (List.mem_append_right [(dc, .inl (cV, 3, .inr (.inr (.inr (.inr h))))), (x, .inr (0, [.int (nI lim), .int (nI rm), .ref dl, .int 0, .ref sb, .ref dc, .ref cm, .ref fo])), (jj, .inr (2, [.ref ra4, .int (nI lim), .int w20])), (ra4, .inr (1, [.ref dl, .int (nI L.length), .int (nI w14), .ref sb])), (dl, .inl (cC, 160, .inl f)), (sb, .inr (13, [.ref x13, .int 0, .int w15, .int (nI w16.length)])), (x13, .inl (cB, w17, .inl w18))] hm1)
        refine va_get (D := (dC, dI)) (ci := 3) (v := .int (nI w8.length)) (C := R_VA) (T := T_VA) (N := 7) hx hb htb in_VA hown hK hP qz22 hz22 rfl 6 (by decide) (htb _ m_405) (fun _ h9 => h9) rfl d_PS_put_47 ?_
        refine lv_aload_n hx hb d_PS_put_50 rfl (lv_at hl 3 rfl) ?_
        refine va_get (D := (dC, dI)) (ci := 0) (v := .int (nI rm)) (C := R_PS) (T := T_PS) (N := 8) hx hb htb in_PS hown hK hP 1 rfl rfl 1 (by decide) (htb _ m_100) (fun _ h9 => h9) rfl d_PS_put_51 ?_
        refine lv_icmp_le (tgt := 59) hx hb d_PS_put_54 rfl (fun h4 => ?_) (fun h4 => ?_)
        · have h4 : w8.length ≤ rm := (nI_leI (by omega) (by omega)).mp h4
          have hpc : putC lim rm L = 0 := by rw [putC, if_pos hp0, hp4, if_pos h4]
          refine lv_aload_n hx hb d_PS_put_59 rfl (lv_at hl 3 rfl) ?_
          refine va_get (D := (dC, dI)) (ci := 0) (v := .ref dc) (C := R_PS) (T := T_PS) (N := 8) hx hb htb in_PS hown hK hP 1 rfl rfl 5 (by decide) (htb _ m_104) (fun _ h9 => h9) rfl d_PS_put_60 ?_
          refine lv_iload_n hx hb d_PS_put_63 rfl (lv_at hl 4 rfl) ?_
          refine lv_aload hx hb d_PS_put_64 (lv_at hl 0 rfl) ?_
          refine va_astqM hx hb hK hP hD hS 0 0 rfl rfl (zz_anyV hE hK hP ((hp3.vin.mono (fun q hq => List.mem_append_left _ hq)).app _)) (i3_in h1 h2) d_PS_put_66 (fun H locs hP hD hS => ?_)
          have hP : va_P (dC, dI) vwCl ([(dc, .inl (cV, 3, .inr (.inr (.inr (.inr (va_up h k.toNatClampNeg (some y8))))))), (x, .inr (0, [.int (nI lim), .int (nI rm), .ref dl, .int 0, .ref sb, .ref dc, .ref cm, .ref fo])), (jj, .inr (2, [.ref ra4, .int (nI lim), .int w20])), (ra4, .inr (1, [.ref dl, .int (nI L.length), .int (nI w14), .ref sb])), (dl, .inl (cC, 160, .inl f)), (sb, .inr (13, [.ref x13, .int 0, .int w15, .int (nI w16.length)])), (x13, .inl (cB, w17, .inl w18))] ++ (w19 ++ fz)) H := hP
          have hD : va_D A ([(dc, .inl (cV, 3, .inr (.inr (.inr (.inr (va_up h k.toNatClampNeg (some y8))))))), (x, .inr (0, [.int (nI lim), .int (nI rm), .ref dl, .int 0, .ref sb, .ref dc, .ref cm, .ref fo])), (jj, .inr (2, [.ref ra4, .int (nI lim), .int w20])), (ra4, .inr (1, [.ref dl, .int (nI L.length), .int (nI w14), .ref sb])), (dl, .inl (cC, 160, .inl f)), (sb, .inr (13, [.ref x13, .int 0, .int w15, .int (nI w16.length)])), (x13, .inl (cB, w17, .inl w18))] ++ (w19 ++ fz)) := hD
          refine lv_iconst (v := 0) hx hb d_PS_put_67 (by decide) ?_
          have hP9 := zz_pickP (pre := [(dc, .inl (cV, 3, .inr (.inr (.inr (.inr (va_up h k.toNatClampNeg (some y8))))))), (x, .inr (0, [.int (nI lim), .int (nI rm), .ref dl, .int 0, .ref sb, .ref dc, .ref cm, .ref fo])), (jj, .inr (2, [.ref ra4, .int (nI lim), .int w20])), (ra4, .inr (1, [.ref dl, .int (nI L.length), .int (nI w14), .ref sb])), (dl, .inl (cC, 160, .inl f)), (sb, .inr (13, [.ref x13, .int 0, .int w15, .int (nI w16.length)])), (x13, .inl (cB, w17, .inl w18))]) (fz := (w19 ++ fz)) (wc := [(x, .inr (0, [.int (nI lim), .int (nI rm), .ref dl, .int 0, .ref sb, .ref dc, .ref cm, .ref fo])), (dl, .inl (cC, 160, .inl f)), (sb, .inr (13, [.ref x13, .int 0, .int w15, .int (nI w16.length)])), (x13, .inl (cB, w17, .inl w18)), (dc, .inl (cV, 3, .inr (.inr (.inr (.inr (va_up h k.toNatClampNeg (some y8)))))))]) hP [1, 4, 5, 6, 0] rfl
          have hD9 := zz_pickD (pre := [(dc, .inl (cV, 3, .inr (.inr (.inr (.inr (va_up h k.toNatClampNeg (some y8))))))), (x, .inr (0, [.int (nI lim), .int (nI rm), .ref dl, .int 0, .ref sb, .ref dc, .ref cm, .ref fo])), (jj, .inr (2, [.ref ra4, .int (nI lim), .int w20])), (ra4, .inr (1, [.ref dl, .int (nI L.length), .int (nI w14), .ref sb])), (dl, .inl (cC, 160, .inl f)), (sb, .inr (13, [.ref x13, .int 0, .int w15, .int (nI w16.length)])), (x13, .inl (cB, w17, .inl w18))]) (fz := (w19 ++ fz)) (wc := [(x, .inr (0, [.int (nI lim), .int (nI rm), .ref dl, .int 0, .ref sb, .ref dc, .ref cm, .ref fo])), (dl, .inl (cC, 160, .inl f)), (sb, .inr (13, [.ref x13, .int 0, .int w15, .int (nI w16.length)])), (x13, .inl (cB, w17, .inl w18)), (dc, .inl (cV, 3, .inr (.inr (.inr (.inr (va_up h k.toNatClampNeg (some y8)))))))]) hD [1, 4, 5, 6, 0] (by decide) rfl
          have hK9 := hK.sub (tys' := [(cC, .char), (cB, .byte), (cO, .object "java/lang/Object"), (cV, .object "PatchStore$Value")]) [1, 2, 3, 0] rfl
          rw [hQ]
          refine W.widen (k := (6 * L.length + 6)) (n := (340 * L.length + 181)) ((by show (2 + (6 * (L.length - 0) + 4)) ≤ (6 * L.length + 6); omega)) ((by show (7 + (340 * (L.length - 0) + 174)) ≤ (340 * L.length + 181); omega)) ?_
          exact W.iret (v := 0) hx hb hr (fun t ht hW => ⟨⟨0, (w15, w16, w17, w18, w19, (va_up h k.toNatClampNeg (some y8))), rfl, ⟨hB21, Or.inr ⟨fun h9 => h9.elim h1 h2, by rw [hpc]; rfl, Or.inr ⟨hpc, _, rfl, by rw [hp4]; exact hp3⟩⟩⟩, ⟨x13, by rw [ht]; exact hP9, va_K.moved hW.alike hK9, hD9⟩⟩, hS.F ht⟩) hS.2.2 d_PS_put_68
        · have h4 : ¬ w8.length ≤ rm := fun h => h4 ((nI_leI (by omega) (by omega)).mpr h)
          have hpc : putC lim rm L = 4 := by rw [putC, if_pos hp0, hp4, if_neg h4]
          refine lv_iconst (v := 4) hx hb d_PS_put_57 (by decide) ?_
          have hP9 := zz_pickP (pre := [(dc, .inl (cV, 3, .inr (.inr (.inr (.inr h))))), (x, .inr (0, [.int (nI lim), .int (nI rm), .ref dl, .int 0, .ref sb, .ref dc, .ref cm, .ref fo])), (jj, .inr (2, [.ref ra4, .int (nI lim), .int w20])), (ra4, .inr (1, [.ref dl, .int (nI L.length), .int (nI w14), .ref sb])), (dl, .inl (cC, 160, .inl f)), (sb, .inr (13, [.ref x13, .int 0, .int w15, .int (nI w16.length)])), (x13, .inl (cB, w17, .inl w18))]) (fz := (w19 ++ fz)) (wc := [(x, .inr (0, [.int (nI lim), .int (nI rm), .ref dl, .int 0, .ref sb, .ref dc, .ref cm, .ref fo])), (dl, .inl (cC, 160, .inl f)), (sb, .inr (13, [.ref x13, .int 0, .int w15, .int (nI w16.length)])), (x13, .inl (cB, w17, .inl w18)), (dc, .inl (cV, 3, .inr (.inr (.inr (.inr h)))))]) hP [1, 4, 5, 6, 0] rfl
          have hD9 := zz_pickD (pre := [(dc, .inl (cV, 3, .inr (.inr (.inr (.inr h))))), (x, .inr (0, [.int (nI lim), .int (nI rm), .ref dl, .int 0, .ref sb, .ref dc, .ref cm, .ref fo])), (jj, .inr (2, [.ref ra4, .int (nI lim), .int w20])), (ra4, .inr (1, [.ref dl, .int (nI L.length), .int (nI w14), .ref sb])), (dl, .inl (cC, 160, .inl f)), (sb, .inr (13, [.ref x13, .int 0, .int w15, .int (nI w16.length)])), (x13, .inl (cB, w17, .inl w18))]) (fz := (w19 ++ fz)) (wc := [(x, .inr (0, [.int (nI lim), .int (nI rm), .ref dl, .int 0, .ref sb, .ref dc, .ref cm, .ref fo])), (dl, .inl (cC, 160, .inl f)), (sb, .inr (13, [.ref x13, .int 0, .int w15, .int (nI w16.length)])), (x13, .inl (cB, w17, .inl w18)), (dc, .inl (cV, 3, .inr (.inr (.inr (.inr h)))))]) hD [1, 4, 5, 6, 0] (by decide) rfl
          have hK9 := hK.sub (tys' := [(cC, .char), (cB, .byte), (cO, .object "java/lang/Object"), (cV, .object "PatchStore$Value")]) [1, 2, 3, 0] rfl
          rw [hQ]
          refine W.widen (k := (6 * L.length + 6)) (n := (340 * L.length + 181)) ((by show (2 + (6 * (L.length - 0) + 4)) ≤ (6 * L.length + 6); omega)) ((by show (7 + (340 * (L.length - 0) + 174)) ≤ (340 * L.length + 181); omega)) ?_
          exact W.iret (v := 4) hx hb hr (fun t ht hW => ⟨⟨4, (w15, w16, w17, w18, w19, h), rfl, ⟨hB21, Or.inr ⟨fun h9 => h9.elim h1 h2, by rw [hpc]; rfl, Or.inl ⟨by rw [hpc]; decide, rfl⟩⟩⟩, ⟨x13, by rw [ht]; exact hP9, va_K.moved hW.alike hK9, hD9⟩⟩, hS.F ht⟩) hS.2.2 d_PS_put_58
    · have h2 : 3 ≤ k := Int32.not_lt.mp h2
      refine lv_iconst (v := (-1)) hx hb d_PS_put_14 (by decide) ?_
      have hP9 := zz_pickP (pre := [(dl, .inl (cC, 160, .inl f)), (sb, .inr (13, [.ref bv, .int 0, .int ml, .int (nI tx.length)])), (bv, .inl (cB, cap, .inl g)), (dc, .inl (cV, 3, .inr (.inr (.inr (.inr h))))), (x, .inr (0, [.int (nI lim), .int (nI rm), .ref dl, .int 0, .ref sb, .ref dc, .ref cm, .ref fo])), (ra4, .inr (1, [.ref dl, .int (nI L.length), .int 0, .ref sb]))]) (fz := fz) (wc := [(x, .inr (0, [.int (nI lim), .int (nI rm), .ref dl, .int 0, .ref sb, .ref dc, .ref cm, .ref fo])), (dl, .inl (cC, 160, .inl f)), (sb, .inr (13, [.ref bv, .int 0, .int ml, .int (nI tx.length)])), (bv, .inl (cB, cap, .inl g)), (dc, .inl (cV, 3, .inr (.inr (.inr (.inr h)))))]) hP [4, 0, 1, 2, 3] rfl
      have hD9 := zz_pickD (pre := [(dl, .inl (cC, 160, .inl f)), (sb, .inr (13, [.ref bv, .int 0, .int ml, .int (nI tx.length)])), (bv, .inl (cB, cap, .inl g)), (dc, .inl (cV, 3, .inr (.inr (.inr (.inr h))))), (x, .inr (0, [.int (nI lim), .int (nI rm), .ref dl, .int 0, .ref sb, .ref dc, .ref cm, .ref fo])), (ra4, .inr (1, [.ref dl, .int (nI L.length), .int 0, .ref sb]))]) (fz := fz) (wc := [(x, .inr (0, [.int (nI lim), .int (nI rm), .ref dl, .int 0, .ref sb, .ref dc, .ref cm, .ref fo])), (dl, .inl (cC, 160, .inl f)), (sb, .inr (13, [.ref bv, .int 0, .int ml, .int (nI tx.length)])), (bv, .inl (cB, cap, .inl g)), (dc, .inl (cV, 3, .inr (.inr (.inr (.inr h)))))]) hD [4, 0, 1, 2, 3] (by decide) rfl
      have hK9 := hK.sub (tys' := [(cC, .char), (cB, .byte), (cO, .object "java/lang/Object"), (cV, .object "PatchStore$Value")]) [0, 1, 2, 3] rfl
      rw [hQ]
      refine W.widen (k := (6 * L.length + 6)) (n := (340 * L.length + 181)) ((by show 1 ≤ (6 * L.length + 6); omega)) ((by show 4 ≤ (340 * L.length + 181); omega)) ?_
      exact W.iret (v := (-1)) hx hb hr (fun t ht hW => ⟨⟨(-1), (ml, tx, cap, g, [], h), rfl, ⟨hB, Or.inl ⟨⟨Or.inr h2, rfl⟩, rfl⟩⟩, ⟨bv, by rw [ht]; exact hP9, va_K.moved hW.alike hK9, hD9⟩⟩, hS.F ht⟩) hS.2.2 d_PS_put_15
