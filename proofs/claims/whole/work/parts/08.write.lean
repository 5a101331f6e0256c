theorem wr_nar : ∀ c, c < 256 → vp_nar .char (nI c) = nI c := by decide +kernel
theorem wr_n_lt (w : Int64) {i j : Nat} (h : i < j) (h0 : wr_b w i ≠ 0) : wr_n w i < wr_n w j := by
  have h1 : wr_n w (i + 1) = wr_n w i + 1 := by show (if _ then _ else _) = _; rw [if_neg h0]
  have h2 := wr_n_mono w (i + 1) (j - (i + 1))
  rw [show i + 1 + (j - (i + 1)) = j by omega] at h2
  omega
set_option maxHeartbeats 1000000 in
set_option maxRecDepth 100000 in
theorem lp_PS_write {p : Program} {l : Launch} {e : Env} {R : Room} {s : State} {m : MethodId} {args : Array Value} {below : List Frame} {meth : Method} {c : Code} {cells slots : Nat} {Q : State → Prop} {dC : Nat → ClassId} {dI : Nat → Nat → Nat} {A : Nat → Prop} {H0 : Heap} {x dl sb dc cm fo : Nat} {lim rm n0 : Int32} {cC : ClassId} {w : Int64} {d : Nat} {f : Nat → Int32} (hx : p.tables.exec = Jvm.exec) (hb : c.code = c_PS_write) (hown : s.vm.findClass R_PS = some m.cls) (htb : ∀ w ∈ TBL, w.before args s = true) (hK : va_K (dC, dI) vwCl [(cC, .char)] s) (hd : d ≤ 160)
    (hend : ∀ (H : Heap) (locs : List Loc) (ls : Array Slot) (f' : Nat → Int32), lv_has ls 6 [(3, .int (nI (d + wr_n w 8))), (0, .ref x)] → va_P (dC, dI) vwCl [(x, .inr (0, [.int lim, .int rm, .ref dl, .int n0, .ref sb, .ref dc, .ref cm, .ref fo])), (dl, .inl (cC, 160, .inl f'))] H → va_D A [(x, .inr (0, [.int lim, .int rm, .ref dl, .int n0, .ref sb, .ref dc, .ref cm, .ref fo])), (dl, .inl (cC, 160, .inl f'))] → va_S A H0 H locs → wr_ans w d → (∀ i, i < d → f' i = f i) → (∀ i, i < 8 → wr_b w i ≠ 0 → f' (d + wr_n w i) = nI (wr_b w i)) → W p l e R s m args below meth c H locs cells slots Q (F0 m 74 ls []))
    (hno : ∀ (H : Heap) (locs : List Loc) (ls : Array Slot) (f' : Nat → Int32), va_P (dC, dI) vwCl [(x, .inr (0, [.int lim, .int rm, .ref dl, .int n0, .ref sb, .ref dc, .ref cm, .ref fo])), (dl, .inl (cC, 160, .inl f'))] H → va_D A [(x, .inr (0, [.int lim, .int rm, .ref dl, .int n0, .ref sb, .ref dc, .ref cm, .ref fo])), (dl, .inl (cC, 160, .inl f'))] → va_S A H0 H locs → ¬ wr_ans w d → (∀ i, i < d → f' i = f i) → W p l e R s m args below meth c H locs cells slots Q (F0 m 54 ls [])) :
    ∀ (k j : Nat), j + k = 8 → ∀ (H : Heap) (locs : List Loc) (ls : Array Slot) (f' : Nat → Int32), lv_has ls 6 [(4, .int (wr_sh j)), (3, .int (nI (d + wr_n w j))), (0, .ref x), (1, .long w)] → va_P (dC, dI) vwCl [(x, .inr (0, [.int lim, .int rm, .ref dl, .int n0, .ref sb, .ref dc, .ref cm, .ref fo])), (dl, .inl (cC, 160, .inl f'))] H → va_D A [(x, .inr (0, [.int lim, .int rm, .ref dl, .int n0, .ref sb, .ref dc, .ref cm, .ref fo])), (dl, .inl (cC, 160, .inl f'))] → va_S A H0 H locs → (∀ i, i < j → wr_good (wr_b w i)) → d + wr_n w j ≤ 160 → (∀ i, i < d → f' i = f i) → (∀ i, i < j → wr_b w i ≠ 0 → f' (d + wr_n w i) = nI (wr_b w i)) → W p l e R s m args below meth c H locs cells slots Q (F0 m 9 ls []) := by
  intro k
  induction k with
  | zero =>
    intro j hj H locs ls f' hl hP hD hS hg hn hf hv
    obtain rfl : j = 8 := by omega
    refine lv_iload hx hb d_PS_write_9 (lv_at hl 0 rfl) ?_
    refine lv_if_lt (tgt := 74) hx hb d_PS_write_11 rfl (fun _ => ?_) (fun h9 => absurd (wr_sh_8) h9)
    exact hend H locs ls f' (lv_sub hl [1, 2] rfl) hP hD hS ⟨hg, hn⟩ hf hv
  | succ k ih =>
    intro j hj H locs ls f' hl hP hD hS hg hn hf hv
    have hj8 : j < 8 := by omega
    have hbl := wr_b_lt w j
    have hm8 : wr_n w (j + 1) ≤ wr_n w 8 := by have := wr_n_mono w (j + 1) k; rwa [show j + 1 + k = 8 by omega] at this
    refine lv_iload hx hb d_PS_write_9 (lv_at hl 0 rfl) ?_
    refine lv_if_lt (tgt := 74) hx hb d_PS_write_11 rfl (fun h9 => absurd h9 (wr_sh_neg j hj8)) (fun _ => ?_)
    refine lv_lload_n hx hb d_PS_write_14 rfl (lv_at hl 3 rfl) ?_
    refine lv_iload hx hb d_PS_write_15 (lv_at hl 0 rfl) ?_
    refine lv_lushr hx hb d_PS_write_17 rfl ?_
    refine lv_l2i hx hb d_PS_write_18 rfl ?_
    refine lv_sipush (v := 255) hx hb d_PS_write_19 (by decide) ?_
    refine lv_iand hx hb d_PS_write_22 ?_
    refine W.eq (congrArg (fun z => F0 m 23 ls (.int z :: [])) (wr_cls w hj8)) ?_
    refine lv_istore hx hb d_PS_write_23 hl (by decide) rfl (fun ls hl => ?_)
    have hl : lv_has ls 6 [(5, .int (nI (wr_b w j))), (4, .int (wr_sh j)), (3, .int (nI (d + wr_n w j))), (0, .ref x), (1, .long w)] := hl
    refine lv_iload hx hb d_PS_write_25 (lv_at hl 0 rfl) ?_
    refine lv_if_ne (tgt := 33) hx hb d_PS_write_27 rfl (fun h0 => ?_) (fun h0 => ?_)
    · have hz : wr_b w j ≠ 0 := fun h => h0 (by rw [h]; rfl)
      have hnn : wr_n w (j + 1) = wr_n w j + 1 := by show (if _ then _ else _) = _; rw [if_neg hz]
      refine lv_iload hx hb d_PS_write_33 (lv_at hl 0 rfl) ?_
      refine lv_bipush (v := 32) hx hb d_PS_write_35 (by decide) ?_
      refine lv_icmp_lt (tgt := 54) hx hb d_PS_write_37 rfl (fun h1 => ?_) (fun h1 => ?_)
      · exact hno H locs ls f' hP hD hS (fun h => by rcases h.1 j hj8 with h | h; exact hz h; exact absurd (nI_le (b := wr_b w j) h.1 (by omega)) (by intro h9; exact absurd h1 (by rw [Int32.lt_iff_toInt_lt]; have := Int32.le_iff_toInt_le.mp h9; simp only [show nI 32 = (32 : Int32) from rfl] at this; omega))) hf
      · have hlo : 32 ≤ wr_b w j := by have h9 : ¬ nI (wr_b w j) < nI 32 := h1; have := mt (nI_ltI (by omega) (by decide)).mpr h9; omega
        refine lv_iload hx hb d_PS_write_40 (lv_at hl 0 rfl) ?_
        refine lv_bipush (v := 126) hx hb d_PS_write_42 (by decide) ?_
        refine lv_icmp_gt (tgt := 54) hx hb d_PS_write_44 rfl (fun h2 => ?_) (fun h2 => ?_)
        · exact hno H locs ls f' hP hD hS (fun h => by have h9 : nI 126 < nI (wr_b w j) := h2; have := (nI_ltI (by decide) (by omega)).mp h9; rcases h.1 j hj8 with h | h; exact hz h; omega) hf
        · have hhi : wr_b w j ≤ 126 := by have h9 : ¬ nI 126 < nI (wr_b w j) := h2; have := mt (nI_ltI (by decide) (by omega)).mpr h9; omega
          have hgj : wr_good (wr_b w j) := Or.inr ⟨hlo, hhi⟩
          refine lv_iload_n hx hb d_PS_write_47 rfl (lv_at hl 2 rfl) ?_
          refine lv_sipush (v := 160) hx hb d_PS_write_48 (by decide) ?_
          refine lv_icmp_lt (tgt := 56) hx hb d_PS_write_51 rfl (fun h3 => ?_) (fun h3 => ?_)
          · have hroom : d + wr_n w j < 160 := by have h9 : nI (d + wr_n w j) < nI 160 := h3; exact (nI_ltI (by omega) (by decide)).mp h9
            refine lv_aload_n hx hb d_PS_write_56 rfl (lv_at hl 3 rfl) ?_
            refine va_get (D := (dC, dI)) (ci := 0) (v := .ref dl) (C := R_PS) (T := T_PS) (N := 8) hx hb htb in_PS hown hK hP 0 rfl rfl 2 (by decide) (htb _ m_101) (fun _ h9 => h9) rfl d_PS_write_57 ?_
            refine lv_iload_n hx hb d_PS_write_60 rfl (lv_at hl 2 rfl) ?_
            refine lv_iload hx hb d_PS_write_61 (lv_at hl 0 rfl) ?_
            refine lv_i2c hx hb d_PS_write_63 rfl ?_
            refine W.eq (congrArg (fun z => F0 m 64 ls (.int z :: [.int (nI (d + wr_n w j)), .ref dl])) ((sb_byte _ hbl).2.1)) ?_
            refine va_cast hx hb hK hP hD hS 1 0 rfl rfl (vp_in_nI hroom (by decide)) d_PS_write_64 (fun H locs hP hD hS => ?_)
            rw [(by rw [nI_clamp (by omega), wr_nar _ hbl] : upd f' (nI (d + wr_n w j)).toNatClampNeg (vp_nar .char (nI (wr_b w j))) = upd f' (d + wr_n w j) (nI (wr_b w j)))] at hP hD
            have hP : va_P (dC, dI) vwCl [(x, .inr (0, [.int lim, .int rm, .ref dl, .int n0, .ref sb, .ref dc, .ref cm, .ref fo])), (dl, .inl (cC, 160, .inl (upd f' (d + wr_n w j) (nI (wr_b w j)))))] H := hP
            have hD : va_D A [(x, .inr (0, [.int lim, .int rm, .ref dl, .int n0, .ref sb, .ref dc, .ref cm, .ref fo])), (dl, .inl (cC, 160, .inl (upd f' (d + wr_n w j) (nI (wr_b w j)))))] := hD
            have hg' : ∀ i, i < j + 1 → wr_good (wr_b w i) := fun i hi => by rcases Nat.lt_succ_iff_lt_or_eq.mp hi with h | rfl; exact hg i h; exact hgj
            refine lv_iinc (k := 2) hx hb d_PS_write_65 hl rfl rfl (by decide) rfl (fun ls hl => ?_)
            have hl : lv_has ls 6 [(3, .int ((nI (d + wr_n w j)) + Int32.ofInt 1)), (5, .int (nI (wr_b w j))), (4, .int (wr_sh j)), (0, .ref x), (1, .long w)] := hl
            rw [show nI (d + wr_n w j) + Int32.ofInt 1 = nI (d + wr_n w (j + 1)) by rw [hnn]; exact nI_1 _] at hl
            refine lv_iinc (k := 2) hx hb d_PS_write_68 hl rfl rfl (by decide) rfl (fun ls hl => ?_)
            have hl : lv_has ls 6 [(4, .int ((wr_sh j) + Int32.ofInt (-8))), (3, .int (nI (d + wr_n w (j + 1)))), (5, .int (nI (wr_b w j))), (0, .ref x), (1, .long w)] := hl
            rw [wr_sh_step j hj8] at hl
            refine lv_goto (tgt := 9) hx hb d_PS_write_71 rfl ?_
            have hl := lv_sub (l' := [(4, .int (wr_sh (j + 1))), (3, .int (nI (d + wr_n w (j + 1)))), (0, .ref x), (1, .long w)]) hl [0, 1, 3, 4] (by rw [hnn]; rfl)
            exact ih (j + 1) (by omega) H locs ls (upd f' (d + wr_n w j) (nI (wr_b w j))) hl hP hD hS hg' (by omega) (fun i hi => by rw [pk_un (by omega)]; exact hf i hi) (fun i hi hi0 => by rcases Nat.lt_succ_iff_lt_or_eq.mp hi with h | rfl; rw [pk_un (by have := wr_n_lt w h hi0; omega)]; exact hv i h hi0; exact pk_us)
          · exact hno H locs ls f' hP hD hS (fun h => by have h9 : ¬ nI (d + wr_n w j) < nI 160 := h3; have := mt (nI_ltI (by omega) (by decide)).mpr h9; have := h.2; omega) hf
    · have hz : wr_b w j = 0 := by have h9 : nI (wr_b w j) = nI 0 := h0; exact (nI_eq (by omega) (by decide)).mp h9
      have hnn : wr_n w (j + 1) = wr_n w j := by show (if _ then _ else _) = _; rw [if_pos hz]
      have hg' : ∀ i, i < j + 1 → wr_good (wr_b w i) := fun i hi => by rcases Nat.lt_succ_iff_lt_or_eq.mp hi with h | rfl; exact hg i h; exact Or.inl hz
      refine lv_goto (tgt := 68) hx hb d_PS_write_30 rfl ?_
      refine lv_iinc (k := 1) hx hb d_PS_write_68 hl rfl rfl (by decide) rfl (fun ls hl => ?_)
      have hl : lv_has ls 6 [(4, .int ((wr_sh j) + Int32.ofInt (-8))), (5, .int (nI (wr_b w j))), (3, .int (nI (d + wr_n w j))), (0, .ref x), (1, .long w)] := hl
      rw [wr_sh_step j hj8] at hl
      refine lv_goto (tgt := 9) hx hb d_PS_write_71 rfl ?_
      have hl := lv_sub (l' := [(4, .int (wr_sh (j + 1))), (3, .int (nI (d + wr_n w (j + 1)))), (0, .ref x), (1, .long w)]) hl [0, 2, 3, 4] (by rw [hnn]; rfl)
      exact ih (j + 1) (by omega) H locs ls (f') hl hP hD hS hg' (by rw [hnn]; exact hn) hf (fun i hi hi0 => by rcases Nat.lt_succ_iff_lt_or_eq.mp hi with h | rfl; exact hv i h hi0; exact absurd hz hi0)
set_option maxHeartbeats 1000000 in
set_option maxRecDepth 100000 in
/-- write(w): the codes behind the draft, or nothing -/
theorem k_PS_write (l : Launch) (dC : Nat → ClassId) (dI : Nat → Nat → Nat) (sz : Nat) (x : Nat) (lim : Int32) (rm : Int32) (dl : Nat) (sb : Nat) (dc : Nat) (cm : Nat) (fo : Nat) (cC : ClassId) (w : Int64) (d : Nat) (f : Nat → Int32) (hd : d ≤ 160) : Met l y_PS_write ws_PS_write ({ frames := 0, cells := 0, slots := 0, locals := 0 }) (va_Pc [.ref x, .long w] (fun U => U.heap.size = sz ∧ va_P (dC, dI) vwCl [(x, .inr (0, [.int lim, .int rm, .ref dl, .int (nI d), .ref sb, .ref dc, .ref cm, .ref fo])), (dl, .inl (cC, 160, .inl f))] U.heap ∧ va_K (dC, dI) vwCl [(cC, .char)] U ∧ va_D (fun _ => True) [(x, .inr (0, [.int lim, .int rm, .ref dl, .int (nI d), .ref sb, .ref dc, .ref cm, .ref fo])), (dl, .inl (cC, 160, .inl f))])) (va_Qi (fun (r : Int32) (u : Nat × (Nat → Int32)) => (∀ i, i < d → u.2 i = f i) ∧ ((wr_ans w d ∧ r = 1 ∧ u.1 = d + wr_n w 8 ∧ (∀ i, i < 8 → wr_b w i ≠ 0 → u.2 (d + wr_n w i) = nI (wr_b w i))) ∨ (¬ wr_ans w d ∧ r = 0 ∧ u.1 = d))) (fun u t => va_P (dC, dI) vwCl [(x, .inr (0, [.int lim, .int rm, .ref dl, .int (nI u.1), .ref sb, .ref dc, .ref cm, .ref fo])), (dl, .inl (cC, 160, .inl u.2))] t.heap ∧ va_K (dC, dI) vwCl [(cC, .char)] t ∧ va_D (va_A [(x, .inr (0, [.int lim, .int rm, .ref dl, .int (nI d), .ref sb, .ref dc, .ref cm, .ref fo])), (dl, .inl (cC, 160, .inl f))] sz) [(x, .inr (0, [.int lim, .int rm, .ref dl, .int (nI u.1), .ref sb, .ref dc, .ref cm, .ref fo])), (dl, .inl (cC, 160, .inl u.2))]) (va_A [(x, .inr (0, [.int lim, .int rm, .ref dl, .int (nI d), .ref sb, .ref dc, .ref cm, .ref fo])), (dl, .inl (cC, 160, .inl f))] sz)) 0 0 (va_A [(x, .inr (0, [.int lim, .int rm, .ref dl, .int (nI d), .ref sb, .ref dc, .ref cm, .ref fo])), (dl, .inl (cC, 160, .inl f))] sz) := by
  refine Met.ofW (cc := c_PS_write) (maxL := 6) (ret := (some .boolean)) (by decide) rfl ?_
  intro p e s m args below meth c s₁ B hml hv
  obtain ⟨rfl, hsz, hP, hK, hD0⟩ := hv
  have hx := B.exec
  have hb := B.bytes
  have hr := B.returns
  have hts := atoms_spec (ws := ws_PS_write) B.pre
  have htb := fun w (h : w ∈ TBL) => hts w (List.mem_cons_of_mem _ h)
  have hown : s.vm.findClass R_PS = some m.cls := findClass_of_methodNamed B.named
  have hlocks := B.notSynchronized
  subst hsz
  have hD := hD0.self (sz := s.heap.size)
  generalize hAe : va_A [(x, .inr (0, [.int lim, .int rm, .ref dl, .int (nI d), .ref sb, .ref dc, .ref cm, .ref fo])), (dl, .inl (cC, 160, .inl f))] s.heap.size = A at hD ⊢
  have hA : ∀ q : Nat, s.heap.size ≤ q → A q := fun q h => by rw [← hAe]; exact Or.inr h
  have hS : va_S A s.heap s.heap [] := va_S.rf
  have hP : va_P (dC, dI) vwCl [(x, .inr (0, [.int lim, .int rm, .ref dl, .int (nI d), .ref sb, .ref dc, .ref cm, .ref fo])), (dl, .inl (cC, 160, .inl f))] s.heap := hP
  have hl := lv_entry ([.ref x, .long w]) (n := 6) (Nat.le_of_ble_eq_true rfl)
  rw [lg_entry_eq]
  generalize (lg_sl ([.ref x, .long w]) ++ List.replicate (6 - (lg_sl ([.ref x, .long w])).length) Slot.unset).toArray = ls at hl ⊢
  have hl : lv_has ls 6 [(0, .ref x), (1, .long w)] := hl
  refine lv_aload_n hx hb d_PS_write_0 rfl (lv_at hl 0 rfl) ?_
  refine va_get (D := (dC, dI)) (ci := 0) (v := .int (nI d)) (C := R_PS) (T := T_PS) (N := 8) hx hb htb in_PS hown hK hP 0 rfl rfl 3 (by decide) (htb _ m_102) (fun _ h9 => h9) rfl d_PS_write_1 ?_
  refine lv_istore_n hx hb d_PS_write_4 rfl hl (by decide) rfl (fun ls hl => ?_)
  have hl : lv_has ls 6 [(3, .int (nI d)), (0, .ref x), (1, .long w)] := hl
  refine lv_bipush (v := 56) hx hb d_PS_write_5 (by decide) ?_
  refine lv_istore hx hb d_PS_write_7 hl (by decide) rfl (fun ls hl => ?_)
  have hl : lv_has ls 6 [(4, .int 56), (3, .int (nI d)), (0, .ref x), (1, .long w)] := hl
  refine lp_PS_write (d := d) (f := f) hx hb hown htb hK hd ?_ ?_ 8 0 rfl s.heap [] ls f (lv_sub hl [0, 1, 2, 3] rfl) hP hD hS (fun _ h => absurd h (Nat.not_lt_zero _)) hd (fun _ _ => rfl) (fun _ h => absurd h (Nat.not_lt_zero _))
  · intro H locs ls f' hl hP hD hS ha hf hv
    refine lv_aload_n hx hb d_PS_write_74 rfl (lv_at hl 1 rfl) ?_
    refine lv_iload_n hx hb d_PS_write_75 rfl (lv_at hl 0 rfl) ?_
    refine va_put (D := (dC, dI)) (ci := 0) (v := .int (nI (d + wr_n w 8))) (ty := .int) (C := R_PS) (T := T_PS) (N := 8) hx hb htb in_PS ty_PS ty_PS_ok nm_PS hown hK hP hD hS 0 rfl rfl 3 (by decide) (htb _ m_102) (fun _ h9 => h9) rfl (by decide +kernel) rfl rfl (Nat.le_of_ble_eq_true rfl) d_PS_write_76 (fun H locs hP hD hS => ?_)
    have hP : va_P (dC, dI) vwCl [(x, .inr (0, [.int lim, .int rm, .ref dl, .int (nI (d + wr_n w 8)), .ref sb, .ref dc, .ref cm, .ref fo])), (dl, .inl (cC, 160, .inl f'))] H := hP
    have hD : va_D A [(x, .inr (0, [.int lim, .int rm, .ref dl, .int (nI (d + wr_n w 8)), .ref sb, .ref dc, .ref cm, .ref fo])), (dl, .inl (cC, 160, .inl f'))] := hD
    refine lv_iconst (v := 1) hx hb d_PS_write_79 (by decide) ?_
    have hP9 := hP.sub (ws' := [(x, .inr (0, [.int lim, .int rm, .ref dl, .int (nI (d + wr_n w 8)), .ref sb, .ref dc, .ref cm, .ref fo])), (dl, .inl (cC, 160, .inl f'))]) [0, 1] rfl
    have hD9 := hD.sub (ws' := [(x, .inr (0, [.int lim, .int rm, .ref dl, .int (nI (d + wr_n w 8)), .ref sb, .ref dc, .ref cm, .ref fo])), (dl, .inl (cC, 160, .inl f'))]) [0, 1] (by decide) rfl
    have hK9 := hK.sub (tys' := [(cC, .char)]) [0] rfl
    refine W.widen (k := 0) (n := 0) (Nat.le_of_ble_eq_true rfl) (Nat.le_of_ble_eq_true rfl) ?_
    exact W.zret (v := 1) hx hb hr (by decide) (fun t ht hW => ⟨⟨1, (d + wr_n w 8, f'), rfl, ⟨hf, Or.inl ⟨ha, rfl, rfl, hv⟩⟩, ⟨by rw [ht]; exact hP9, va_K.moved hW.alike hK9, hD9⟩⟩, hS.F ht⟩) hS.2.2 d_PS_write_80
  · intro H locs ls f' hP hD hS ha hf
    refine lv_iconst (v := 0) hx hb d_PS_write_54 (by decide) ?_
    have hP9 := hP.sub (ws' := [(x, .inr (0, [.int lim, .int rm, .ref dl, .int (nI d), .ref sb, .ref dc, .ref cm, .ref fo])), (dl, .inl (cC, 160, .inl f'))]) [0, 1] rfl
    have hD9 := hD.sub (ws' := [(x, .inr (0, [.int lim, .int rm, .ref dl, .int (nI d), .ref sb, .ref dc, .ref cm, .ref fo])), (dl, .inl (cC, 160, .inl f'))]) [0, 1] (by decide) rfl
    have hK9 := hK.sub (tys' := [(cC, .char)]) [0] rfl
    refine W.widen (k := 0) (n := 0) (Nat.le_of_ble_eq_true rfl) (Nat.le_of_ble_eq_true rfl) ?_
    exact W.zret (v := 0) hx hb hr (by decide) (fun t ht hW => ⟨⟨0, (d, f'), rfl, ⟨hf, Or.inr ⟨ha, rfl, rfl⟩⟩, ⟨by rw [ht]; exact hP9, va_K.moved hW.alike hK9, hD9⟩⟩, hS.F ht⟩) hS.2.2 d_PS_write_55
