set_option maxHeartbeats 1000000 in
set_option maxRecDepth 100000 in
/-- compared(row, sign) -/
theorem q_MO_compared (l : Launch) (dC : Nat → ClassId) (dI : Nat → Nat → Nat) (y : Nat) (lim : Int32) (rm : Int32) (a_size : Nat) (a_kind : Nat) (a_level : Nat) (a_at : Nat) (a_len : Nat) (a_nameAt : Nat) (a_nameLen : Nat) (a_num : Nat) (a_pool : Nat) (a_draft : Nat) (a_open : Nat) (a_word : Nat) (a_list : Nat) (a_next : Nat) (a_result : Nat) (a_twin : Nat) (a_came : Nat) (a_closer : Nat) (i_pooled : Int32) (i_code : Int32) (i_opened : Int32) (i_heldAt : Int32) (i_heldLen : Int32) (i_listed : Int32) (i_results : Int32) (i_working : Int32) (i_seen : Int32) (i_wanted : Int32) (i_got : Int32) (cC : ClassId) (cI : ClassId) (cL : ClassId) (f : Nat → Int32) (L : List Nat) (a : Nat) (tr : Nat) (lt : Int32) (bd : Int32) (gi : Int32) (fo : Int32) (fu : Int32) (sf : Nat → Int32) (kf : Nat → Int32) (vf : Nat → Int32) (af : Nat → Int32) (lf : Nat → Int32) (xf : Nat → Int32) (nf : Nat → Int32) (uf : Nat → Int64) (pf : Nat → Int32) (pn : Nat) (w0 : List Row) (wf : Nat → Int32) (xo : Option Plc) (s8 : Nat) (k8 : Nat) (z8 : Int) (t8 : List Nat) (htr : tr < 3) (hsf : sf tr = nI w0.length) (hw32 : w0.length ≤ 32) (hTR : TR (bsK tr) w0 kf vf af lf xf nf uf pf pn) (hWR : WR 12 w0) (hpn : pn ≤ 8400) (hxo : ∀ x8, xo = some x8 → LOK w0 x8) (hs1 : 1 ≤ s8) (hs6 : s8 ≤ 6) (hk4 : k8 ≤ 4) (hz1 : -2 ^ 63 ≤ z8) (hz2 : z8 < 2 ^ 63) (hwz : k8 = 4 → lt = nI t8.length ∧ WRD t8 wf ∧ t8.length ≤ 160 ∧ ∀ c ∈ t8, c < 128) : Met l y_MO_compared ws_MO_compared ({ frames := 1, cells := 0, slots := 0, locals := 22 }) (va_Pc [.ref y, .int (rwI (bsK tr) xo), .int (nI s8)] (fun U => va_P (dC, dI) vwCl [(y, .inr (12, [.int lim, .int rm, .ref a_size, .ref a_kind, .ref a_level, .ref a_at, .ref a_len, .ref a_nameAt, .ref a_nameLen, .ref a_num, .ref a_pool, .int i_pooled, .ref a_draft, .int (nI L.length), .int (nI a), .int i_code, .ref a_open, .int i_opened, .int i_heldAt, .int i_heldLen, .ref a_word, .int lt, .int (nI k8), .int bd, .int gi, .long (lI z8), .ref a_list, .ref a_next, .ref a_result, .int i_listed, .int fo, .int (nI tr), .int i_results, .int fu, .int i_working, .ref a_twin, .int i_seen, .int i_wanted, .int i_got, .ref a_came, .ref a_closer])), (a_kind, .inl (cI, 576, .inl kf)), (a_num, .inl (cL, 576, .inr (.inl uf))), (a_len, .inl (cI, 576, .inl lf)), (a_at, .inl (cI, 576, .inl af)), (a_pool, .inl (cC, 8400, .inl pf)), (a_word, .inl (cC, 160, .inl wf))] U.heap ∧ va_K (dC, dI) vwCl [(cI, .int), (cC, .char), (cL, .long)] U)) (vp_Si (fun (r : Int32) => r = bI (cmX xo s8 (k8, z8, t8)))) 0 0 (fun _ => False) := by
  refine Met.ofW (cc := c_MO_compared) (maxL := 6) (ret := (some .boolean)) (by decide) rfl ?_
  intro p e s m args below meth c s₁ B hml hv
  obtain ⟨hargs, hP, hK⟩ := hv
  rw [show entryFrame m args 6 = entryFrame m ([.ref y, .int (rwI (bsK tr) xo), .int (nI s8)]).toArray 6 by rw [hargs]]
  have hx := B.exec
  have hb := B.bytes
  have hr := B.returns
  have hts := atoms_spec (ws := ws_MO_compared) B.pre
  have htb := fun w (h : w ∈ TBL) => hts w (List.mem_cons_of_mem _ h)
  have hown : s.vm.findClass R_MO = some m.cls := findClass_of_methodNamed B.named
  have hlocks := B.notSynchronized
  have hl := lv_entry ([.ref y, .int (rwI (bsK tr) xo), .int (nI s8)]) (n := 6) (Nat.le_of_ble_eq_true rfl)
  rw [lg_entry_eq]
  generalize (lg_sl ([.ref y, .int (rwI (bsK tr) xo), .int (nI s8)]) ++ List.replicate (6 - (lg_sl ([.ref y, .int (rwI (bsK tr) xo), .int (nI s8)])).length) Slot.unset).toArray = ls at hl ⊢
  replace hl : lv_has ls 6 [(0, .ref y), (1, .int (rwI (bsK tr) xo)), (2, .int (nI s8))] := hl
  refine zz_nQ (fun Q hQ => ?_)
  have hbt : bsK tr = 32 * tr := bsK_small (by omega)
  have hlv : ∀ j, j < w0.length → vf (bsK tr + j) = nI (lvR w0 j) ∧ lvR w0 j < 1000 := fun j hj => hTR.lvs hWR (by decide) hj
  have hsx : s8 = 1 ∨ s8 = 2 ∨ s8 = 3 ∨ s8 = 4 ∨ s8 = 5 ∨ s8 = 6 := by omega
  have hjoinO : ∀ (al : Bool) (od : Int32) (ls : Array Slot), ((al = false ∧ od = 0 ∧ (match xo with | none => True | some x8 => smL x8.2 (k8, z8, t8) = false ∧ lsL x8.2 (k8, z8, t8) = false ∧ grL x8.2 (k8, z8, t8) = false)) ∨ (al = true ∧ ∃ x8, xo = some x8 ∧ ((od = -1 ∧ smL x8.2 (k8, z8, t8) = false ∧ lsL x8.2 (k8, z8, t8) = true ∧ grL x8.2 (k8, z8, t8) = false) ∨ (od = 0 ∧ smL x8.2 (k8, z8, t8) = true ∧ lsL x8.2 (k8, z8, t8) = false ∧ grL x8.2 (k8, z8, t8) = false) ∨ (od = 1 ∧ smL x8.2 (k8, z8, t8) = false ∧ lsL x8.2 (k8, z8, t8) = false ∧ grL x8.2 (k8, z8, t8) = true)))) → lv_has ls 6 [(3, .int (bI al)), (0, .ref y), (1, .int (rwI (bsK tr) xo)), (2, .int (nI s8))] → W p l e (headSpec ws_MO_compared ({ frames := 1, cells := 0, slots := 0, locals := 22 })).room s m args below meth c s.heap [] 0 0 Q (F0 m 96 ls [.int od]) := by
    intro al od ls hf9 hl
    rcases hf9 with hf9 | hf9
    · obtain ⟨rfl, rfl, hz9⟩ := hf9
      rcases xo with _ | x8
      · rcases hsx with hs9 | hs9 | hs9 | hs9 | hs9 | hs9
        · subst hs9
          refine W.eq (g2 := F0 m 96 ls [.int 0]) rfl ?_
          replace hl : lv_has ls 6 [(3, .int 0), (0, .ref y), (1, .int (rwI (bsK tr) (none : Option Plc))), (2, .int 1)] := hl
          refine lv_istore hx hb d_MO_compared_96 hl (by decide) rfl (fun ls hl => ?_)
          replace hl : lv_has ls 6 [(4, .int 0), (3, .int 0), (0, .ref y), (1, .int (rwI (bsK tr) (none : Option Plc))), (2, .int 1)] := hl
          refine lv_iload_n hx hb d_MO_compared_98 rfl (lv_at hl 1 rfl) ?_
          refine lv_if_eq (tgt := 111) hx hb d_MO_compared_99 rfl (fun _ => ?_) (fun h9 => absurd (rfl) h9)
          refine lv_iconst (v := 0) hx hb d_MO_compared_111 (by decide) ?_
          refine lv_istore hx hb d_MO_compared_112 hl (by decide) rfl (fun ls hl => ?_)
          replace hl : lv_has ls 6 [(5, .int 0), (4, .int 0), (3, .int 0), (0, .ref y), (1, .int (rwI (bsK tr) (none : Option Plc))), (2, .int 1)] := hl
          refine lv_iload_n hx hb d_MO_compared_114 rfl (lv_at hl 5 rfl) ?_
          refine lv_iconst (v := 2) hx hb d_MO_compared_115 (by decide) ?_
          refine lv_icmp_gt (tgt := 140) hx hb d_MO_compared_116 rfl (fun h9 => absurd h9 (by decide)) (fun _ => ?_)
          refine lv_iload hx hb d_MO_compared_119 (lv_at hl 0 rfl) ?_
          refine lv_iload_n hx hb d_MO_compared_121 rfl (lv_at hl 5 rfl) ?_
          refine lv_iconst (v := 1) hx hb d_MO_compared_122 (by decide) ?_
          refine lv_icmp_ne (tgt := 130) hx hb d_MO_compared_123 rfl (fun h9 => absurd (rfl) h9) (fun _ => ?_)
          refine lv_iconst (v := 1) hx hb d_MO_compared_126 (by decide) ?_
          refine lv_goto (tgt := 131) hx hb d_MO_compared_127 rfl ?_
          refine lv_icmp_ne (tgt := 138) hx hb d_MO_compared_131 rfl (fun _ => ?_) (fun h9 => absurd h9 (by decide))
          refine lv_iconst (v := 0) hx hb d_MO_compared_138 (by decide) ?_
          rw [hQ]
          exact W.zret (v := 0) hx hb hr (by decide) (fun t ht hW => ⟨0, rfl, by rfl, ht⟩) (fun q h => absurd h List.not_mem_nil) d_MO_compared_139
        · subst hs9
          refine W.eq (g2 := F0 m 96 ls [.int 0]) rfl ?_
          replace hl : lv_has ls 6 [(3, .int 0), (0, .ref y), (1, .int (rwI (bsK tr) (none : Option Plc))), (2, .int 2)] := hl
          refine lv_istore hx hb d_MO_compared_96 hl (by decide) rfl (fun ls hl => ?_)
          replace hl : lv_has ls 6 [(4, .int 0), (3, .int 0), (0, .ref y), (1, .int (rwI (bsK tr) (none : Option Plc))), (2, .int 2)] := hl
          refine lv_iload_n hx hb d_MO_compared_98 rfl (lv_at hl 1 rfl) ?_
          refine lv_if_eq (tgt := 111) hx hb d_MO_compared_99 rfl (fun _ => ?_) (fun h9 => absurd (rfl) h9)
          refine lv_iconst (v := 0) hx hb d_MO_compared_111 (by decide) ?_
          refine lv_istore hx hb d_MO_compared_112 hl (by decide) rfl (fun ls hl => ?_)
          replace hl : lv_has ls 6 [(5, .int 0), (4, .int 0), (3, .int 0), (0, .ref y), (1, .int (rwI (bsK tr) (none : Option Plc))), (2, .int 2)] := hl
          refine lv_iload_n hx hb d_MO_compared_114 rfl (lv_at hl 5 rfl) ?_
          refine lv_iconst (v := 2) hx hb d_MO_compared_115 (by decide) ?_
          refine lv_icmp_gt (tgt := 140) hx hb d_MO_compared_116 rfl (fun h9 => absurd h9 (by decide)) (fun _ => ?_)
          refine lv_iload hx hb d_MO_compared_119 (lv_at hl 0 rfl) ?_
          refine lv_iload_n hx hb d_MO_compared_121 rfl (lv_at hl 5 rfl) ?_
          refine lv_iconst (v := 1) hx hb d_MO_compared_122 (by decide) ?_
          refine lv_icmp_ne (tgt := 130) hx hb d_MO_compared_123 rfl (fun _ => ?_) (fun h9 => absurd h9 (by decide))
          refine lv_iconst (v := 0) hx hb d_MO_compared_130 (by decide) ?_
          refine lv_icmp_ne (tgt := 138) hx hb d_MO_compared_131 rfl (fun h9 => absurd (rfl) h9) (fun _ => ?_)
          refine lv_iconst (v := 1) hx hb d_MO_compared_134 (by decide) ?_
          refine lv_goto (tgt := 139) hx hb d_MO_compared_135 rfl ?_
          rw [hQ]
          exact W.zret (v := 1) hx hb hr (by decide) (fun t ht hW => ⟨1, rfl, by rfl, ht⟩) (fun q h => absurd h List.not_mem_nil) d_MO_compared_139
        · subst hs9
          refine W.eq (g2 := F0 m 96 ls [.int 0]) rfl ?_
          replace hl : lv_has ls 6 [(3, .int 0), (0, .ref y), (1, .int (rwI (bsK tr) (none : Option Plc))), (2, .int 3)] := hl
          refine lv_istore hx hb d_MO_compared_96 hl (by decide) rfl (fun ls hl => ?_)
          replace hl : lv_has ls 6 [(4, .int 0), (3, .int 0), (0, .ref y), (1, .int (rwI (bsK tr) (none : Option Plc))), (2, .int 3)] := hl
          refine lv_iload_n hx hb d_MO_compared_98 rfl (lv_at hl 1 rfl) ?_
          refine lv_if_eq (tgt := 111) hx hb d_MO_compared_99 rfl (fun _ => ?_) (fun h9 => absurd (rfl) h9)
          refine lv_iconst (v := 0) hx hb d_MO_compared_111 (by decide) ?_
          refine lv_istore hx hb d_MO_compared_112 hl (by decide) rfl (fun ls hl => ?_)
          replace hl : lv_has ls 6 [(5, .int 0), (4, .int 0), (3, .int 0), (0, .ref y), (1, .int (rwI (bsK tr) (none : Option Plc))), (2, .int 3)] := hl
          refine lv_iload_n hx hb d_MO_compared_114 rfl (lv_at hl 5 rfl) ?_
          refine lv_iconst (v := 2) hx hb d_MO_compared_115 (by decide) ?_
          refine lv_icmp_gt (tgt := 140) hx hb d_MO_compared_116 rfl (fun _ => ?_) (fun h9 => absurd (by decide) h9)
          refine lv_iload_n hx hb d_MO_compared_140 rfl (lv_at hl 5 rfl) ?_
          refine lv_iconst (v := 4) hx hb d_MO_compared_141 (by decide) ?_
          refine lv_icmp_eq (tgt := 151) hx hb d_MO_compared_142 rfl (fun h9 => absurd h9 (by decide)) (fun _ => ?_)
          refine lv_iload_n hx hb d_MO_compared_145 rfl (lv_at hl 5 rfl) ?_
          refine lv_bipush (v := 6) hx hb d_MO_compared_146 (by decide) ?_
          refine lv_icmp_ne (tgt := 158) hx hb d_MO_compared_148 rfl (fun _ => ?_) (fun h9 => absurd h9 (by decide))
          refine lv_iload_n hx hb d_MO_compared_158 rfl (lv_at hl 2 rfl) ?_
          refine lv_if_eq (tgt := 184) hx hb d_MO_compared_159 rfl (fun _ => ?_) (fun h9 => absurd (rfl) h9)
          refine lv_iconst (v := 0) hx hb d_MO_compared_184 (by decide) ?_
          rw [hQ]
          exact W.zret (v := 0) hx hb hr (by decide) (fun t ht hW => ⟨0, rfl, by rfl, ht⟩) (fun q h => absurd h List.not_mem_nil) d_MO_compared_185
        · subst hs9
          refine W.eq (g2 := F0 m 96 ls [.int 0]) rfl ?_
          replace hl : lv_has ls 6 [(3, .int 0), (0, .ref y), (1, .int (rwI (bsK tr) (none : Option Plc))), (2, .int 4)] := hl
          refine lv_istore hx hb d_MO_compared_96 hl (by decide) rfl (fun ls hl => ?_)
          replace hl : lv_has ls 6 [(4, .int 0), (3, .int 0), (0, .ref y), (1, .int (rwI (bsK tr) (none : Option Plc))), (2, .int 4)] := hl
          refine lv_iload_n hx hb d_MO_compared_98 rfl (lv_at hl 1 rfl) ?_
          refine lv_if_eq (tgt := 111) hx hb d_MO_compared_99 rfl (fun _ => ?_) (fun h9 => absurd (rfl) h9)
          refine lv_iconst (v := 0) hx hb d_MO_compared_111 (by decide) ?_
          refine lv_istore hx hb d_MO_compared_112 hl (by decide) rfl (fun ls hl => ?_)
          replace hl : lv_has ls 6 [(5, .int 0), (4, .int 0), (3, .int 0), (0, .ref y), (1, .int (rwI (bsK tr) (none : Option Plc))), (2, .int 4)] := hl
          refine lv_iload_n hx hb d_MO_compared_114 rfl (lv_at hl 5 rfl) ?_
          refine lv_iconst (v := 2) hx hb d_MO_compared_115 (by decide) ?_
          refine lv_icmp_gt (tgt := 140) hx hb d_MO_compared_116 rfl (fun _ => ?_) (fun h9 => absurd (by decide) h9)
          refine lv_iload_n hx hb d_MO_compared_140 rfl (lv_at hl 5 rfl) ?_
          refine lv_iconst (v := 4) hx hb d_MO_compared_141 (by decide) ?_
          refine lv_icmp_eq (tgt := 151) hx hb d_MO_compared_142 rfl (fun _ => ?_) (fun h9 => absurd (rfl) h9)
          refine lv_iload hx hb d_MO_compared_151 (lv_at hl 0 rfl) ?_
          refine lv_if_eq (tgt := 158) hx hb d_MO_compared_153 rfl (fun _ => ?_) (fun h9 => absurd (rfl) h9)
          refine lv_iload_n hx hb d_MO_compared_158 rfl (lv_at hl 2 rfl) ?_
          refine lv_if_eq (tgt := 184) hx hb d_MO_compared_159 rfl (fun _ => ?_) (fun h9 => absurd (rfl) h9)
          refine lv_iconst (v := 0) hx hb d_MO_compared_184 (by decide) ?_
          rw [hQ]
          exact W.zret (v := 0) hx hb hr (by decide) (fun t ht hW => ⟨0, rfl, by rfl, ht⟩) (fun q h => absurd h List.not_mem_nil) d_MO_compared_185
        · subst hs9
          refine W.eq (g2 := F0 m 96 ls [.int 0]) rfl ?_
          replace hl : lv_has ls 6 [(3, .int 0), (0, .ref y), (1, .int (rwI (bsK tr) (none : Option Plc))), (2, .int 5)] := hl
          refine lv_istore hx hb d_MO_compared_96 hl (by decide) rfl (fun ls hl => ?_)
          replace hl : lv_has ls 6 [(4, .int 0), (3, .int 0), (0, .ref y), (1, .int (rwI (bsK tr) (none : Option Plc))), (2, .int 5)] := hl
          refine lv_iload_n hx hb d_MO_compared_98 rfl (lv_at hl 1 rfl) ?_
          refine lv_if_eq (tgt := 111) hx hb d_MO_compared_99 rfl (fun _ => ?_) (fun h9 => absurd (rfl) h9)
          refine lv_iconst (v := 0) hx hb d_MO_compared_111 (by decide) ?_
          refine lv_istore hx hb d_MO_compared_112 hl (by decide) rfl (fun ls hl => ?_)
          replace hl : lv_has ls 6 [(5, .int 0), (4, .int 0), (3, .int 0), (0, .ref y), (1, .int (rwI (bsK tr) (none : Option Plc))), (2, .int 5)] := hl
          refine lv_iload_n hx hb d_MO_compared_114 rfl (lv_at hl 5 rfl) ?_
          refine lv_iconst (v := 2) hx hb d_MO_compared_115 (by decide) ?_
          refine lv_icmp_gt (tgt := 140) hx hb d_MO_compared_116 rfl (fun _ => ?_) (fun h9 => absurd (by decide) h9)
          refine lv_iload_n hx hb d_MO_compared_140 rfl (lv_at hl 5 rfl) ?_
          refine lv_iconst (v := 4) hx hb d_MO_compared_141 (by decide) ?_
          refine lv_icmp_eq (tgt := 151) hx hb d_MO_compared_142 rfl (fun h9 => absurd h9 (by decide)) (fun _ => ?_)
          refine lv_iload_n hx hb d_MO_compared_145 rfl (lv_at hl 5 rfl) ?_
          refine lv_bipush (v := 6) hx hb d_MO_compared_146 (by decide) ?_
          refine lv_icmp_ne (tgt := 158) hx hb d_MO_compared_148 rfl (fun _ => ?_) (fun h9 => absurd h9 (by decide))
          refine lv_iload_n hx hb d_MO_compared_158 rfl (lv_at hl 2 rfl) ?_
          refine lv_if_eq (tgt := 184) hx hb d_MO_compared_159 rfl (fun _ => ?_) (fun h9 => absurd (rfl) h9)
          refine lv_iconst (v := 0) hx hb d_MO_compared_184 (by decide) ?_
          rw [hQ]
          exact W.zret (v := 0) hx hb hr (by decide) (fun t ht hW => ⟨0, rfl, by rfl, ht⟩) (fun q h => absurd h List.not_mem_nil) d_MO_compared_185
        · subst hs9
          refine W.eq (g2 := F0 m 96 ls [.int 0]) rfl ?_
          replace hl : lv_has ls 6 [(3, .int 0), (0, .ref y), (1, .int (rwI (bsK tr) (none : Option Plc))), (2, .int 6)] := hl
          refine lv_istore hx hb d_MO_compared_96 hl (by decide) rfl (fun ls hl => ?_)
          replace hl : lv_has ls 6 [(4, .int 0), (3, .int 0), (0, .ref y), (1, .int (rwI (bsK tr) (none : Option Plc))), (2, .int 6)] := hl
          refine lv_iload_n hx hb d_MO_compared_98 rfl (lv_at hl 1 rfl) ?_
          refine lv_if_eq (tgt := 111) hx hb d_MO_compared_99 rfl (fun _ => ?_) (fun h9 => absurd (rfl) h9)
          refine lv_iconst (v := 0) hx hb d_MO_compared_111 (by decide) ?_
          refine lv_istore hx hb d_MO_compared_112 hl (by decide) rfl (fun ls hl => ?_)
          replace hl : lv_has ls 6 [(5, .int 0), (4, .int 0), (3, .int 0), (0, .ref y), (1, .int (rwI (bsK tr) (none : Option Plc))), (2, .int 6)] := hl
          refine lv_iload_n hx hb d_MO_compared_114 rfl (lv_at hl 5 rfl) ?_
          refine lv_iconst (v := 2) hx hb d_MO_compared_115 (by decide) ?_
          refine lv_icmp_gt (tgt := 140) hx hb d_MO_compared_116 rfl (fun _ => ?_) (fun h9 => absurd (by decide) h9)
          refine lv_iload_n hx hb d_MO_compared_140 rfl (lv_at hl 5 rfl) ?_
          refine lv_iconst (v := 4) hx hb d_MO_compared_141 (by decide) ?_
          refine lv_icmp_eq (tgt := 151) hx hb d_MO_compared_142 rfl (fun h9 => absurd h9 (by decide)) (fun _ => ?_)
          refine lv_iload_n hx hb d_MO_compared_145 rfl (lv_at hl 5 rfl) ?_
          refine lv_bipush (v := 6) hx hb d_MO_compared_146 (by decide) ?_
          refine lv_icmp_ne (tgt := 158) hx hb d_MO_compared_148 rfl (fun h9 => absurd (rfl) h9) (fun _ => ?_)
          refine lv_iload hx hb d_MO_compared_151 (lv_at hl 0 rfl) ?_
          refine lv_if_eq (tgt := 158) hx hb d_MO_compared_153 rfl (fun _ => ?_) (fun h9 => absurd (rfl) h9)
          refine lv_iload_n hx hb d_MO_compared_158 rfl (lv_at hl 2 rfl) ?_
          refine lv_if_eq (tgt := 184) hx hb d_MO_compared_159 rfl (fun _ => ?_) (fun h9 => absurd (rfl) h9)
          refine lv_iconst (v := 0) hx hb d_MO_compared_184 (by decide) ?_
          rw [hQ]
          exact W.zret (v := 0) hx hb hr (by decide) (fun t ht hW => ⟨0, rfl, by rfl, ht⟩) (fun q h => absurd h List.not_mem_nil) d_MO_compared_185
      · obtain ⟨g1, g2, g3⟩ : smL x8.2 (k8, z8, t8) = false ∧ lsL x8.2 (k8, z8, t8) = false ∧ grL x8.2 (k8, z8, t8) = false := hz9
        rcases hsx with hs9 | hs9 | hs9 | hs9 | hs9 | hs9
        · subst hs9
          refine W.eq (g2 := F0 m 96 ls [.int 0]) rfl ?_
          replace hl : lv_has ls 6 [(3, .int 0), (0, .ref y), (1, .int (rwI (bsK tr) (some x8))), (2, .int 1)] := hl
          refine lv_istore hx hb d_MO_compared_96 hl (by decide) rfl (fun ls hl => ?_)
          replace hl : lv_has ls 6 [(4, .int 0), (3, .int 0), (0, .ref y), (1, .int (rwI (bsK tr) (some x8))), (2, .int 1)] := hl
          refine lv_iload_n hx hb d_MO_compared_98 rfl (lv_at hl 1 rfl) ?_
          refine lv_if_eq (tgt := 111) hx hb d_MO_compared_99 rfl (fun _ => ?_) (fun h9 => absurd (rfl) h9)
          refine lv_iconst (v := 0) hx hb d_MO_compared_111 (by decide) ?_
          refine lv_istore hx hb d_MO_compared_112 hl (by decide) rfl (fun ls hl => ?_)
          replace hl : lv_has ls 6 [(5, .int 0), (4, .int 0), (3, .int 0), (0, .ref y), (1, .int (rwI (bsK tr) (some x8))), (2, .int 1)] := hl
          refine lv_iload_n hx hb d_MO_compared_114 rfl (lv_at hl 5 rfl) ?_
          refine lv_iconst (v := 2) hx hb d_MO_compared_115 (by decide) ?_
          refine lv_icmp_gt (tgt := 140) hx hb d_MO_compared_116 rfl (fun h9 => absurd h9 (by decide)) (fun _ => ?_)
          refine lv_iload hx hb d_MO_compared_119 (lv_at hl 0 rfl) ?_
          refine lv_iload_n hx hb d_MO_compared_121 rfl (lv_at hl 5 rfl) ?_
          refine lv_iconst (v := 1) hx hb d_MO_compared_122 (by decide) ?_
          refine lv_icmp_ne (tgt := 130) hx hb d_MO_compared_123 rfl (fun h9 => absurd (rfl) h9) (fun _ => ?_)
          refine lv_iconst (v := 1) hx hb d_MO_compared_126 (by decide) ?_
          refine lv_goto (tgt := 131) hx hb d_MO_compared_127 rfl ?_
          refine lv_icmp_ne (tgt := 138) hx hb d_MO_compared_131 rfl (fun _ => ?_) (fun h9 => absurd h9 (by decide))
          refine lv_iconst (v := 0) hx hb d_MO_compared_138 (by decide) ?_
          rw [hQ]
          exact W.zret (v := 0) hx hb hr (by decide) (fun t ht hW => ⟨0, rfl, by show _ = bI (cmL _ x8.2 (k8, z8, t8)); unfold cmL; simp only [g1, g2, g3]; rfl, ht⟩) (fun q h => absurd h List.not_mem_nil) d_MO_compared_139
        · subst hs9
          refine W.eq (g2 := F0 m 96 ls [.int 0]) rfl ?_
          replace hl : lv_has ls 6 [(3, .int 0), (0, .ref y), (1, .int (rwI (bsK tr) (some x8))), (2, .int 2)] := hl
          refine lv_istore hx hb d_MO_compared_96 hl (by decide) rfl (fun ls hl => ?_)
          replace hl : lv_has ls 6 [(4, .int 0), (3, .int 0), (0, .ref y), (1, .int (rwI (bsK tr) (some x8))), (2, .int 2)] := hl
          refine lv_iload_n hx hb d_MO_compared_98 rfl (lv_at hl 1 rfl) ?_
          refine lv_if_eq (tgt := 111) hx hb d_MO_compared_99 rfl (fun _ => ?_) (fun h9 => absurd (rfl) h9)
          refine lv_iconst (v := 0) hx hb d_MO_compared_111 (by decide) ?_
          refine lv_istore hx hb d_MO_compared_112 hl (by decide) rfl (fun ls hl => ?_)
          replace hl : lv_has ls 6 [(5, .int 0), (4, .int 0), (3, .int 0), (0, .ref y), (1, .int (rwI (bsK tr) (some x8))), (2, .int 2)] := hl
          refine lv_iload_n hx hb d_MO_compared_114 rfl (lv_at hl 5 rfl) ?_
          refine lv_iconst (v := 2) hx hb d_MO_compared_115 (by decide) ?_
          refine lv_icmp_gt (tgt := 140) hx hb d_MO_compared_116 rfl (fun h9 => absurd h9 (by decide)) (fun _ => ?_)
          refine lv_iload hx hb d_MO_compared_119 (lv_at hl 0 rfl) ?_
          refine lv_iload_n hx hb d_MO_compared_121 rfl (lv_at hl 5 rfl) ?_
          refine lv_iconst (v := 1) hx hb d_MO_compared_122 (by decide) ?_
          refine lv_icmp_ne (tgt := 130) hx hb d_MO_compared_123 rfl (fun _ => ?_) (fun h9 => absurd h9 (by decide))
          refine lv_iconst (v := 0) hx hb d_MO_compared_130 (by decide) ?_
          refine lv_icmp_ne (tgt := 138) hx hb d_MO_compared_131 rfl (fun h9 => absurd (rfl) h9) (fun _ => ?_)
          refine lv_iconst (v := 1) hx hb d_MO_compared_134 (by decide) ?_
          refine lv_goto (tgt := 139) hx hb d_MO_compared_135 rfl ?_
          rw [hQ]
          exact W.zret (v := 1) hx hb hr (by decide) (fun t ht hW => ⟨1, rfl, by show _ = bI (cmL _ x8.2 (k8, z8, t8)); unfold cmL; simp only [g1, g2, g3]; rfl, ht⟩) (fun q h => absurd h List.not_mem_nil) d_MO_compared_139
        · subst hs9
          refine W.eq (g2 := F0 m 96 ls [.int 0]) rfl ?_
          replace hl : lv_has ls 6 [(3, .int 0), (0, .ref y), (1, .int (rwI (bsK tr) (some x8))), (2, .int 3)] := hl
          refine lv_istore hx hb d_MO_compared_96 hl (by decide) rfl (fun ls hl => ?_)
          replace hl : lv_has ls 6 [(4, .int 0), (3, .int 0), (0, .ref y), (1, .int (rwI (bsK tr) (some x8))), (2, .int 3)] := hl
          refine lv_iload_n hx hb d_MO_compared_98 rfl (lv_at hl 1 rfl) ?_
          refine lv_if_eq (tgt := 111) hx hb d_MO_compared_99 rfl (fun _ => ?_) (fun h9 => absurd (rfl) h9)
          refine lv_iconst (v := 0) hx hb d_MO_compared_111 (by decide) ?_
          refine lv_istore hx hb d_MO_compared_112 hl (by decide) rfl (fun ls hl => ?_)
          replace hl : lv_has ls 6 [(5, .int 0), (4, .int 0), (3, .int 0), (0, .ref y), (1, .int (rwI (bsK tr) (some x8))), (2, .int 3)] := hl
          refine lv_iload_n hx hb d_MO_compared_114 rfl (lv_at hl 5 rfl) ?_
          refine lv_iconst (v := 2) hx hb d_MO_compared_115 (by decide) ?_
          refine lv_icmp_gt (tgt := 140) hx hb d_MO_compared_116 rfl (fun _ => ?_) (fun h9 => absurd (by decide) h9)
          refine lv_iload_n hx hb d_MO_compared_140 rfl (lv_at hl 5 rfl) ?_
          refine lv_iconst (v := 4) hx hb d_MO_compared_141 (by decide) ?_
          refine lv_icmp_eq (tgt := 151) hx hb d_MO_compared_142 rfl (fun h9 => absurd h9 (by decide)) (fun _ => ?_)
          refine lv_iload_n hx hb d_MO_compared_145 rfl (lv_at hl 5 rfl) ?_
          refine lv_bipush (v := 6) hx hb d_MO_compared_146 (by decide) ?_
          refine lv_icmp_ne (tgt := 158) hx hb d_MO_compared_148 rfl (fun _ => ?_) (fun h9 => absurd h9 (by decide))
          refine lv_iload_n hx hb d_MO_compared_158 rfl (lv_at hl 2 rfl) ?_
          refine lv_if_eq (tgt := 184) hx hb d_MO_compared_159 rfl (fun _ => ?_) (fun h9 => absurd (rfl) h9)
          refine lv_iconst (v := 0) hx hb d_MO_compared_184 (by decide) ?_
          rw [hQ]
          exact W.zret (v := 0) hx hb hr (by decide) (fun t ht hW => ⟨0, rfl, by show _ = bI (cmL _ x8.2 (k8, z8, t8)); unfold cmL; simp only [g1, g2, g3]; rfl, ht⟩) (fun q h => absurd h List.not_mem_nil) d_MO_compared_185
        · subst hs9
          refine W.eq (g2 := F0 m 96 ls [.int 0]) rfl ?_
          replace hl : lv_has ls 6 [(3, .int 0), (0, .ref y), (1, .int (rwI (bsK tr) (some x8))), (2, .int 4)] := hl
          refine lv_istore hx hb d_MO_compared_96 hl (by decide) rfl (fun ls hl => ?_)
          replace hl : lv_has ls 6 [(4, .int 0), (3, .int 0), (0, .ref y), (1, .int (rwI (bsK tr) (some x8))), (2, .int 4)] := hl
          refine lv_iload_n hx hb d_MO_compared_98 rfl (lv_at hl 1 rfl) ?_
          refine lv_if_eq (tgt := 111) hx hb d_MO_compared_99 rfl (fun _ => ?_) (fun h9 => absurd (rfl) h9)
          refine lv_iconst (v := 0) hx hb d_MO_compared_111 (by decide) ?_
          refine lv_istore hx hb d_MO_compared_112 hl (by decide) rfl (fun ls hl => ?_)
          replace hl : lv_has ls 6 [(5, .int 0), (4, .int 0), (3, .int 0), (0, .ref y), (1, .int (rwI (bsK tr) (some x8))), (2, .int 4)] := hl
          refine lv_iload_n hx hb d_MO_compared_114 rfl (lv_at hl 5 rfl) ?_
          refine lv_iconst (v := 2) hx hb d_MO_compared_115 (by decide) ?_
          refine lv_icmp_gt (tgt := 140) hx hb d_MO_compared_116 rfl (fun _ => ?_) (fun h9 => absurd (by decide) h9)
          refine lv_iload_n hx hb d_MO_compared_140 rfl (lv_at hl 5 rfl) ?_
          refine lv_iconst (v := 4) hx hb d_MO_compared_141 (by decide) ?_
          refine lv_icmp_eq (tgt := 151) hx hb d_MO_compared_142 rfl (fun _ => ?_) (fun h9 => absurd (rfl) h9)
          refine lv_iload hx hb d_MO_compared_151 (lv_at hl 0 rfl) ?_
          refine lv_if_eq (tgt := 158) hx hb d_MO_compared_153 rfl (fun _ => ?_) (fun h9 => absurd (rfl) h9)
          refine lv_iload_n hx hb d_MO_compared_158 rfl (lv_at hl 2 rfl) ?_
          refine lv_if_eq (tgt := 184) hx hb d_MO_compared_159 rfl (fun _ => ?_) (fun h9 => absurd (rfl) h9)
          refine lv_iconst (v := 0) hx hb d_MO_compared_184 (by decide) ?_
          rw [hQ]
          exact W.zret (v := 0) hx hb hr (by decide) (fun t ht hW => ⟨0, rfl, by show _ = bI (cmL _ x8.2 (k8, z8, t8)); unfold cmL; simp only [g1, g2, g3]; rfl, ht⟩) (fun q h => absurd h List.not_mem_nil) d_MO_compared_185
        · subst hs9
          refine W.eq (g2 := F0 m 96 ls [.int 0]) rfl ?_
          replace hl : lv_has ls 6 [(3, .int 0), (0, .ref y), (1, .int (rwI (bsK tr) (some x8))), (2, .int 5)] := hl
          refine lv_istore hx hb d_MO_compared_96 hl (by decide) rfl (fun ls hl => ?_)
          replace hl : lv_has ls 6 [(4, .int 0), (3, .int 0), (0, .ref y), (1, .int (rwI (bsK tr) (some x8))), (2, .int 5)] := hl
          refine lv_iload_n hx hb d_MO_compared_98 rfl (lv_at hl 1 rfl) ?_
          refine lv_if_eq (tgt := 111) hx hb d_MO_compared_99 rfl (fun _ => ?_) (fun h9 => absurd (rfl) h9)
          refine lv_iconst (v := 0) hx hb d_MO_compared_111 (by decide) ?_
          refine lv_istore hx hb d_MO_compared_112 hl (by decide) rfl (fun ls hl => ?_)
          replace hl : lv_has ls 6 [(5, .int 0), (4, .int 0), (3, .int 0), (0, .ref y), (1, .int (rwI (bsK tr) (some x8))), (2, .int 5)] := hl
          refine lv_iload_n hx hb d_MO_compared_114 rfl (lv_at hl 5 rfl) ?_
          refine lv_iconst (v := 2) hx hb d_MO_compared_115 (by decide) ?_
          refine lv_icmp_gt (tgt := 140) hx hb d_MO_compared_116 rfl (fun _ => ?_) (fun h9 => absurd (by decide) h9)
          refine lv_iload_n hx hb d_MO_compared_140 rfl (lv_at hl 5 rfl) ?_
          refine lv_iconst (v := 4) hx hb d_MO_compared_141 (by decide) ?_
          refine lv_icmp_eq (tgt := 151) hx hb d_MO_compared_142 rfl (fun h9 => absurd h9 (by decide)) (fun _ => ?_)
          refine lv_iload_n hx hb d_MO_compared_145 rfl (lv_at hl 5 rfl) ?_
          refine lv_bipush (v := 6) hx hb d_MO_compared_146 (by decide) ?_
          refine lv_icmp_ne (tgt := 158) hx hb d_MO_compared_148 rfl (fun _ => ?_) (fun h9 => absurd h9 (by decide))
          refine lv_iload_n hx hb d_MO_compared_158 rfl (lv_at hl 2 rfl) ?_
          refine lv_if_eq (tgt := 184) hx hb d_MO_compared_159 rfl (fun _ => ?_) (fun h9 => absurd (rfl) h9)
          refine lv_iconst (v := 0) hx hb d_MO_compared_184 (by decide) ?_
          rw [hQ]
          exact W.zret (v := 0) hx hb hr (by decide) (fun t ht hW => ⟨0, rfl, by show _ = bI (cmL _ x8.2 (k8, z8, t8)); unfold cmL; simp only [g1, g2, g3]; rfl, ht⟩) (fun q h => absurd h List.not_mem_nil) d_MO_compared_185
        · subst hs9
          refine W.eq (g2 := F0 m 96 ls [.int 0]) rfl ?_
          replace hl : lv_has ls 6 [(3, .int 0), (0, .ref y), (1, .int (rwI (bsK tr) (some x8))), (2, .int 6)] := hl
          refine lv_istore hx hb d_MO_compared_96 hl (by decide) rfl (fun ls hl => ?_)
          replace hl : lv_has ls 6 [(4, .int 0), (3, .int 0), (0, .ref y), (1, .int (rwI (bsK tr) (some x8))), (2, .int 6)] := hl
          refine lv_iload_n hx hb d_MO_compared_98 rfl (lv_at hl 1 rfl) ?_
          refine lv_if_eq (tgt := 111) hx hb d_MO_compared_99 rfl (fun _ => ?_) (fun h9 => absurd (rfl) h9)
          refine lv_iconst (v := 0) hx hb d_MO_compared_111 (by decide) ?_
          refine lv_istore hx hb d_MO_compared_112 hl (by decide) rfl (fun ls hl => ?_)
          replace hl : lv_has ls 6 [(5, .int 0), (4, .int 0), (3, .int 0), (0, .ref y), (1, .int (rwI (bsK tr) (some x8))), (2, .int 6)] := hl
          refine lv_iload_n hx hb d_MO_compared_114 rfl (lv_at hl 5 rfl) ?_
          refine lv_iconst (v := 2) hx hb d_MO_compared_115 (by decide) ?_
          refine lv_icmp_gt (tgt := 140) hx hb d_MO_compared_116 rfl (fun _ => ?_) (fun h9 => absurd (by decide) h9)
          refine lv_iload_n hx hb d_MO_compared_140 rfl (lv_at hl 5 rfl) ?_
          refine lv_iconst (v := 4) hx hb d_MO_compared_141 (by decide) ?_
          refine lv_icmp_eq (tgt := 151) hx hb d_MO_compared_142 rfl (fun h9 => absurd h9 (by decide)) (fun _ => ?_)
          refine lv_iload_n hx hb d_MO_compared_145 rfl (lv_at hl 5 rfl) ?_
          refine lv_bipush (v := 6) hx hb d_MO_compared_146 (by decide) ?_
          refine lv_icmp_ne (tgt := 158) hx hb d_MO_compared_148 rfl (fun h9 => absurd (rfl) h9) (fun _ => ?_)
          refine lv_iload hx hb d_MO_compared_151 (lv_at hl 0 rfl) ?_
          refine lv_if_eq (tgt := 158) hx hb d_MO_compared_153 rfl (fun _ => ?_) (fun h9 => absurd (rfl) h9)
          refine lv_iload_n hx hb d_MO_compared_158 rfl (lv_at hl 2 rfl) ?_
          refine lv_if_eq (tgt := 184) hx hb d_MO_compared_159 rfl (fun _ => ?_) (fun h9 => absurd (rfl) h9)
          refine lv_iconst (v := 0) hx hb d_MO_compared_184 (by decide) ?_
          rw [hQ]
          exact W.zret (v := 0) hx hb hr (by decide) (fun t ht hW => ⟨0, rfl, by show _ = bI (cmL _ x8.2 (k8, z8, t8)); unfold cmL; simp only [g1, g2, g3]; rfl, ht⟩) (fun q h => absurd h List.not_mem_nil) d_MO_compared_185
    · obtain ⟨rfl, x8, hx8, hf8⟩ := hf9
      subst hx8
      rcases hf8 with hf8 | hf8 | hf8
      · obtain ⟨rfl, g1, g2, g3⟩ := hf8
        rcases hsx with hs9 | hs9 | hs9 | hs9 | hs9 | hs9
        · subst hs9
          refine W.eq (g2 := F0 m 96 ls [.int (-1)]) rfl ?_
          replace hl : lv_has ls 6 [(3, .int 1), (0, .ref y), (1, .int (rwI (bsK tr) (some x8))), (2, .int 1)] := hl
          refine lv_istore hx hb d_MO_compared_96 hl (by decide) rfl (fun ls hl => ?_)
          replace hl : lv_has ls 6 [(4, .int (-1)), (3, .int 1), (0, .ref y), (1, .int (rwI (bsK tr) (some x8))), (2, .int 1)] := hl
          refine lv_iload_n hx hb d_MO_compared_98 rfl (lv_at hl 1 rfl) ?_
          refine lv_if_eq (tgt := 111) hx hb d_MO_compared_99 rfl (fun h9 => absurd h9 (by decide)) (fun _ => ?_)
          refine lv_iload hx hb d_MO_compared_102 (lv_at hl 0 rfl) ?_
          refine lv_if_ne (tgt := 111) hx hb d_MO_compared_104 rfl (fun _ => ?_) (fun h9 => absurd h9 (by decide))
          refine lv_iconst (v := 0) hx hb d_MO_compared_111 (by decide) ?_
          refine lv_istore hx hb d_MO_compared_112 hl (by decide) rfl (fun ls hl => ?_)
          replace hl : lv_has ls 6 [(5, .int 0), (4, .int (-1)), (3, .int 1), (0, .ref y), (1, .int (rwI (bsK tr) (some x8))), (2, .int 1)] := hl
          refine lv_iload_n hx hb d_MO_compared_114 rfl (lv_at hl 5 rfl) ?_
          refine lv_iconst (v := 2) hx hb d_MO_compared_115 (by decide) ?_
          refine lv_icmp_gt (tgt := 140) hx hb d_MO_compared_116 rfl (fun h9 => absurd h9 (by decide)) (fun _ => ?_)
          refine lv_iload hx hb d_MO_compared_119 (lv_at hl 0 rfl) ?_
          refine lv_iload_n hx hb d_MO_compared_121 rfl (lv_at hl 5 rfl) ?_
          refine lv_iconst (v := 1) hx hb d_MO_compared_122 (by decide) ?_
          refine lv_icmp_ne (tgt := 130) hx hb d_MO_compared_123 rfl (fun h9 => absurd (rfl) h9) (fun _ => ?_)
          refine lv_iconst (v := 1) hx hb d_MO_compared_126 (by decide) ?_
          refine lv_goto (tgt := 131) hx hb d_MO_compared_127 rfl ?_
          refine lv_icmp_ne (tgt := 138) hx hb d_MO_compared_131 rfl (fun _ => ?_) (fun h9 => absurd h9 (by decide))
          refine lv_iconst (v := 0) hx hb d_MO_compared_138 (by decide) ?_
          rw [hQ]
          exact W.zret (v := 0) hx hb hr (by decide) (fun t ht hW => ⟨0, rfl, by show _ = bI (cmL _ x8.2 (k8, z8, t8)); unfold cmL; simp only [g1, g2, g3]; rfl, ht⟩) (fun q h => absurd h List.not_mem_nil) d_MO_compared_139
        · subst hs9
          refine W.eq (g2 := F0 m 96 ls [.int (-1)]) rfl ?_
          replace hl : lv_has ls 6 [(3, .int 1), (0, .ref y), (1, .int (rwI (bsK tr) (some x8))), (2, .int 2)] := hl
          refine lv_istore hx hb d_MO_compared_96 hl (by decide) rfl (fun ls hl => ?_)
          replace hl : lv_has ls 6 [(4, .int (-1)), (3, .int 1), (0, .ref y), (1, .int (rwI (bsK tr) (some x8))), (2, .int 2)] := hl
          refine lv_iload_n hx hb d_MO_compared_98 rfl (lv_at hl 1 rfl) ?_
          refine lv_if_eq (tgt := 111) hx hb d_MO_compared_99 rfl (fun h9 => absurd h9 (by decide)) (fun _ => ?_)
          refine lv_iload hx hb d_MO_compared_102 (lv_at hl 0 rfl) ?_
          refine lv_if_ne (tgt := 111) hx hb d_MO_compared_104 rfl (fun _ => ?_) (fun h9 => absurd h9 (by decide))
          refine lv_iconst (v := 0) hx hb d_MO_compared_111 (by decide) ?_
          refine lv_istore hx hb d_MO_compared_112 hl (by decide) rfl (fun ls hl => ?_)
          replace hl : lv_has ls 6 [(5, .int 0), (4, .int (-1)), (3, .int 1), (0, .ref y), (1, .int (rwI (bsK tr) (some x8))), (2, .int 2)] := hl
          refine lv_iload_n hx hb d_MO_compared_114 rfl (lv_at hl 5 rfl) ?_
          refine lv_iconst (v := 2) hx hb d_MO_compared_115 (by decide) ?_
          refine lv_icmp_gt (tgt := 140) hx hb d_MO_compared_116 rfl (fun h9 => absurd h9 (by decide)) (fun _ => ?_)
          refine lv_iload hx hb d_MO_compared_119 (lv_at hl 0 rfl) ?_
          refine lv_iload_n hx hb d_MO_compared_121 rfl (lv_at hl 5 rfl) ?_
          refine lv_iconst (v := 1) hx hb d_MO_compared_122 (by decide) ?_
          refine lv_icmp_ne (tgt := 130) hx hb d_MO_compared_123 rfl (fun _ => ?_) (fun h9 => absurd h9 (by decide))
          refine lv_iconst (v := 0) hx hb d_MO_compared_130 (by decide) ?_
          refine lv_icmp_ne (tgt := 138) hx hb d_MO_compared_131 rfl (fun h9 => absurd (rfl) h9) (fun _ => ?_)
          refine lv_iconst (v := 1) hx hb d_MO_compared_134 (by decide) ?_
          refine lv_goto (tgt := 139) hx hb d_MO_compared_135 rfl ?_
          rw [hQ]
          exact W.zret (v := 1) hx hb hr (by decide) (fun t ht hW => ⟨1, rfl, by show _ = bI (cmL _ x8.2 (k8, z8, t8)); unfold cmL; simp only [g1, g2, g3]; rfl, ht⟩) (fun q h => absurd h List.not_mem_nil) d_MO_compared_139
        · subst hs9
          refine W.eq (g2 := F0 m 96 ls [.int (-1)]) rfl ?_
          replace hl : lv_has ls 6 [(3, .int 1), (0, .ref y), (1, .int (rwI (bsK tr) (some x8))), (2, .int 3)] := hl
          refine lv_istore hx hb d_MO_compared_96 hl (by decide) rfl (fun ls hl => ?_)
          replace hl : lv_has ls 6 [(4, .int (-1)), (3, .int 1), (0, .ref y), (1, .int (rwI (bsK tr) (some x8))), (2, .int 3)] := hl
          refine lv_iload_n hx hb d_MO_compared_98 rfl (lv_at hl 1 rfl) ?_
          refine lv_if_eq (tgt := 111) hx hb d_MO_compared_99 rfl (fun h9 => absurd h9 (by decide)) (fun _ => ?_)
          refine lv_iload hx hb d_MO_compared_102 (lv_at hl 0 rfl) ?_
          refine lv_if_ne (tgt := 111) hx hb d_MO_compared_104 rfl (fun _ => ?_) (fun h9 => absurd h9 (by decide))
          refine lv_iconst (v := 0) hx hb d_MO_compared_111 (by decide) ?_
          refine lv_istore hx hb d_MO_compared_112 hl (by decide) rfl (fun ls hl => ?_)
          replace hl : lv_has ls 6 [(5, .int 0), (4, .int (-1)), (3, .int 1), (0, .ref y), (1, .int (rwI (bsK tr) (some x8))), (2, .int 3)] := hl
          refine lv_iload_n hx hb d_MO_compared_114 rfl (lv_at hl 5 rfl) ?_
          refine lv_iconst (v := 2) hx hb d_MO_compared_115 (by decide) ?_
          refine lv_icmp_gt (tgt := 140) hx hb d_MO_compared_116 rfl (fun _ => ?_) (fun h9 => absurd (by decide) h9)
          refine lv_iload_n hx hb d_MO_compared_140 rfl (lv_at hl 5 rfl) ?_
          refine lv_iconst (v := 4) hx hb d_MO_compared_141 (by decide) ?_
          refine lv_icmp_eq (tgt := 151) hx hb d_MO_compared_142 rfl (fun h9 => absurd h9 (by decide)) (fun _ => ?_)
          refine lv_iload_n hx hb d_MO_compared_145 rfl (lv_at hl 5 rfl) ?_
          refine lv_bipush (v := 6) hx hb d_MO_compared_146 (by decide) ?_
          refine lv_icmp_ne (tgt := 158) hx hb d_MO_compared_148 rfl (fun _ => ?_) (fun h9 => absurd h9 (by decide))
          refine lv_iload_n hx hb d_MO_compared_158 rfl (lv_at hl 2 rfl) ?_
          refine lv_if_eq (tgt := 184) hx hb d_MO_compared_159 rfl (fun h9 => absurd h9 (by decide)) (fun _ => ?_)
          refine lv_iload_n hx hb d_MO_compared_162 rfl (lv_at hl 5 rfl) ?_
          refine lv_iconst (v := 4) hx hb d_MO_compared_163 (by decide) ?_
          refine lv_icmp_gt (tgt := 175) hx hb d_MO_compared_164 rfl (fun h9 => absurd h9 (by decide)) (fun _ => ?_)
          refine lv_iload hx hb d_MO_compared_167 (lv_at hl 1 rfl) ?_
          refine lv_if_ge (tgt := 184) hx hb d_MO_compared_169 rfl (fun h9 => absurd h9 (by decide)) (fun _ => ?_)
          refine lv_goto (tgt := 180) hx hb d_MO_compared_172 rfl ?_
          refine lv_iconst (v := 1) hx hb d_MO_compared_180 (by decide) ?_
          refine lv_goto (tgt := 185) hx hb d_MO_compared_181 rfl ?_
          rw [hQ]
          exact W.zret (v := 1) hx hb hr (by decide) (fun t ht hW => ⟨1, rfl, by show _ = bI (cmL _ x8.2 (k8, z8, t8)); unfold cmL; simp only [g1, g2, g3]; rfl, ht⟩) (fun q h => absurd h List.not_mem_nil) d_MO_compared_185
        · subst hs9
          refine W.eq (g2 := F0 m 96 ls [.int (-1)]) rfl ?_
          replace hl : lv_has ls 6 [(3, .int 1), (0, .ref y), (1, .int (rwI (bsK tr) (some x8))), (2, .int 4)] := hl
          refine lv_istore hx hb d_MO_compared_96 hl (by decide) rfl (fun ls hl => ?_)
          replace hl : lv_has ls 6 [(4, .int (-1)), (3, .int 1), (0, .ref y), (1, .int (rwI (bsK tr) (some x8))), (2, .int 4)] := hl
          refine lv_iload_n hx hb d_MO_compared_98 rfl (lv_at hl 1 rfl) ?_
          refine lv_if_eq (tgt := 111) hx hb d_MO_compared_99 rfl (fun h9 => absurd h9 (by decide)) (fun _ => ?_)
          refine lv_iload hx hb d_MO_compared_102 (lv_at hl 0 rfl) ?_
          refine lv_if_ne (tgt := 111) hx hb d_MO_compared_104 rfl (fun _ => ?_) (fun h9 => absurd h9 (by decide))
          refine lv_iconst (v := 0) hx hb d_MO_compared_111 (by decide) ?_
          refine lv_istore hx hb d_MO_compared_112 hl (by decide) rfl (fun ls hl => ?_)
          replace hl : lv_has ls 6 [(5, .int 0), (4, .int (-1)), (3, .int 1), (0, .ref y), (1, .int (rwI (bsK tr) (some x8))), (2, .int 4)] := hl
          refine lv_iload_n hx hb d_MO_compared_114 rfl (lv_at hl 5 rfl) ?_
          refine lv_iconst (v := 2) hx hb d_MO_compared_115 (by decide) ?_
          refine lv_icmp_gt (tgt := 140) hx hb d_MO_compared_116 rfl (fun _ => ?_) (fun h9 => absurd (by decide) h9)
          refine lv_iload_n hx hb d_MO_compared_140 rfl (lv_at hl 5 rfl) ?_
          refine lv_iconst (v := 4) hx hb d_MO_compared_141 (by decide) ?_
          refine lv_icmp_eq (tgt := 151) hx hb d_MO_compared_142 rfl (fun _ => ?_) (fun h9 => absurd (rfl) h9)
          refine lv_iload hx hb d_MO_compared_151 (lv_at hl 0 rfl) ?_
          refine lv_if_eq (tgt := 158) hx hb d_MO_compared_153 rfl (fun _ => ?_) (fun h9 => absurd (rfl) h9)
          refine lv_iload_n hx hb d_MO_compared_158 rfl (lv_at hl 2 rfl) ?_
          refine lv_if_eq (tgt := 184) hx hb d_MO_compared_159 rfl (fun h9 => absurd h9 (by decide)) (fun _ => ?_)
          refine lv_iload_n hx hb d_MO_compared_162 rfl (lv_at hl 5 rfl) ?_
          refine lv_iconst (v := 4) hx hb d_MO_compared_163 (by decide) ?_
          refine lv_icmp_gt (tgt := 175) hx hb d_MO_compared_164 rfl (fun h9 => absurd h9 (by decide)) (fun _ => ?_)
          refine lv_iload hx hb d_MO_compared_167 (lv_at hl 1 rfl) ?_
          refine lv_if_ge (tgt := 184) hx hb d_MO_compared_169 rfl (fun h9 => absurd h9 (by decide)) (fun _ => ?_)
          refine lv_goto (tgt := 180) hx hb d_MO_compared_172 rfl ?_
          refine lv_iconst (v := 1) hx hb d_MO_compared_180 (by decide) ?_
          refine lv_goto (tgt := 185) hx hb d_MO_compared_181 rfl ?_
          rw [hQ]
          exact W.zret (v := 1) hx hb hr (by decide) (fun t ht hW => ⟨1, rfl, by show _ = bI (cmL _ x8.2 (k8, z8, t8)); unfold cmL; simp only [g1, g2, g3]; rfl, ht⟩) (fun q h => absurd h List.not_mem_nil) d_MO_compared_185
        · subst hs9
          refine W.eq (g2 := F0 m 96 ls [.int (-1)]) rfl ?_
          replace hl : lv_has ls 6 [(3, .int 1), (0, .ref y), (1, .int (rwI (bsK tr) (some x8))), (2, .int 5)] := hl
          refine lv_istore hx hb d_MO_compared_96 hl (by decide) rfl (fun ls hl => ?_)
          replace hl : lv_has ls 6 [(4, .int (-1)), (3, .int 1), (0, .ref y), (1, .int (rwI (bsK tr) (some x8))), (2, .int 5)] := hl
          refine lv_iload_n hx hb d_MO_compared_98 rfl (lv_at hl 1 rfl) ?_
          refine lv_if_eq (tgt := 111) hx hb d_MO_compared_99 rfl (fun h9 => absurd h9 (by decide)) (fun _ => ?_)
          refine lv_iload hx hb d_MO_compared_102 (lv_at hl 0 rfl) ?_
          refine lv_if_ne (tgt := 111) hx hb d_MO_compared_104 rfl (fun _ => ?_) (fun h9 => absurd h9 (by decide))
          refine lv_iconst (v := 0) hx hb d_MO_compared_111 (by decide) ?_
          refine lv_istore hx hb d_MO_compared_112 hl (by decide) rfl (fun ls hl => ?_)
          replace hl : lv_has ls 6 [(5, .int 0), (4, .int (-1)), (3, .int 1), (0, .ref y), (1, .int (rwI (bsK tr) (some x8))), (2, .int 5)] := hl
          refine lv_iload_n hx hb d_MO_compared_114 rfl (lv_at hl 5 rfl) ?_
          refine lv_iconst (v := 2) hx hb d_MO_compared_115 (by decide) ?_
          refine lv_icmp_gt (tgt := 140) hx hb d_MO_compared_116 rfl (fun _ => ?_) (fun h9 => absurd (by decide) h9)
          refine lv_iload_n hx hb d_MO_compared_140 rfl (lv_at hl 5 rfl) ?_
          refine lv_iconst (v := 4) hx hb d_MO_compared_141 (by decide) ?_
          refine lv_icmp_eq (tgt := 151) hx hb d_MO_compared_142 rfl (fun h9 => absurd h9 (by decide)) (fun _ => ?_)
          refine lv_iload_n hx hb d_MO_compared_145 rfl (lv_at hl 5 rfl) ?_
          refine lv_bipush (v := 6) hx hb d_MO_compared_146 (by decide) ?_
          refine lv_icmp_ne (tgt := 158) hx hb d_MO_compared_148 rfl (fun _ => ?_) (fun h9 => absurd h9 (by decide))
          refine lv_iload_n hx hb d_MO_compared_158 rfl (lv_at hl 2 rfl) ?_
          refine lv_if_eq (tgt := 184) hx hb d_MO_compared_159 rfl (fun h9 => absurd h9 (by decide)) (fun _ => ?_)
          refine lv_iload_n hx hb d_MO_compared_162 rfl (lv_at hl 5 rfl) ?_
          refine lv_iconst (v := 4) hx hb d_MO_compared_163 (by decide) ?_
          refine lv_icmp_gt (tgt := 175) hx hb d_MO_compared_164 rfl (fun _ => ?_) (fun h9 => absurd (by decide) h9)
          refine lv_iload hx hb d_MO_compared_175 (lv_at hl 1 rfl) ?_
          refine lv_if_le (tgt := 184) hx hb d_MO_compared_177 rfl (fun _ => ?_) (fun h9 => absurd (by decide) h9)
          refine lv_iconst (v := 0) hx hb d_MO_compared_184 (by decide) ?_
          rw [hQ]
          exact W.zret (v := 0) hx hb hr (by decide) (fun t ht hW => ⟨0, rfl, by show _ = bI (cmL _ x8.2 (k8, z8, t8)); unfold cmL; simp only [g1, g2, g3]; rfl, ht⟩) (fun q h => absurd h List.not_mem_nil) d_MO_compared_185
        · subst hs9
          refine W.eq (g2 := F0 m 96 ls [.int (-1)]) rfl ?_
          replace hl : lv_has ls 6 [(3, .int 1), (0, .ref y), (1, .int (rwI (bsK tr) (some x8))), (2, .int 6)] := hl
          refine lv_istore hx hb d_MO_compared_96 hl (by decide) rfl (fun ls hl => ?_)
          replace hl : lv_has ls 6 [(4, .int (-1)), (3, .int 1), (0, .ref y), (1, .int (rwI (bsK tr) (some x8))), (2, .int 6)] := hl
          refine lv_iload_n hx hb d_MO_compared_98 rfl (lv_at hl 1 rfl) ?_
          refine lv_if_eq (tgt := 111) hx hb d_MO_compared_99 rfl (fun h9 => absurd h9 (by decide)) (fun _ => ?_)
          refine lv_iload hx hb d_MO_compared_102 (lv_at hl 0 rfl) ?_
          refine lv_if_ne (tgt := 111) hx hb d_MO_compared_104 rfl (fun _ => ?_) (fun h9 => absurd h9 (by decide))
          refine lv_iconst (v := 0) hx hb d_MO_compared_111 (by decide) ?_
          refine lv_istore hx hb d_MO_compared_112 hl (by decide) rfl (fun ls hl => ?_)
          replace hl : lv_has ls 6 [(5, .int 0), (4, .int (-1)), (3, .int 1), (0, .ref y), (1, .int (rwI (bsK tr) (some x8))), (2, .int 6)] := hl
          refine lv_iload_n hx hb d_MO_compared_114 rfl (lv_at hl 5 rfl) ?_
          refine lv_iconst (v := 2) hx hb d_MO_compared_115 (by decide) ?_
          refine lv_icmp_gt (tgt := 140) hx hb d_MO_compared_116 rfl (fun _ => ?_) (fun h9 => absurd (by decide) h9)
          refine lv_iload_n hx hb d_MO_compared_140 rfl (lv_at hl 5 rfl) ?_
          refine lv_iconst (v := 4) hx hb d_MO_compared_141 (by decide) ?_
          refine lv_icmp_eq (tgt := 151) hx hb d_MO_compared_142 rfl (fun h9 => absurd h9 (by decide)) (fun _ => ?_)
          refine lv_iload_n hx hb d_MO_compared_145 rfl (lv_at hl 5 rfl) ?_
          refine lv_bipush (v := 6) hx hb d_MO_compared_146 (by decide) ?_
          refine lv_icmp_ne (tgt := 158) hx hb d_MO_compared_148 rfl (fun h9 => absurd (rfl) h9) (fun _ => ?_)
          refine lv_iload hx hb d_MO_compared_151 (lv_at hl 0 rfl) ?_
          refine lv_if_eq (tgt := 158) hx hb d_MO_compared_153 rfl (fun _ => ?_) (fun h9 => absurd (rfl) h9)
          refine lv_iload_n hx hb d_MO_compared_158 rfl (lv_at hl 2 rfl) ?_
          refine lv_if_eq (tgt := 184) hx hb d_MO_compared_159 rfl (fun h9 => absurd h9 (by decide)) (fun _ => ?_)
          refine lv_iload_n hx hb d_MO_compared_162 rfl (lv_at hl 5 rfl) ?_
          refine lv_iconst (v := 4) hx hb d_MO_compared_163 (by decide) ?_
          refine lv_icmp_gt (tgt := 175) hx hb d_MO_compared_164 rfl (fun _ => ?_) (fun h9 => absurd (by decide) h9)
          refine lv_iload hx hb d_MO_compared_175 (lv_at hl 1 rfl) ?_
          refine lv_if_le (tgt := 184) hx hb d_MO_compared_177 rfl (fun _ => ?_) (fun h9 => absurd (by decide) h9)
          refine lv_iconst (v := 0) hx hb d_MO_compared_184 (by decide) ?_
          rw [hQ]
          exact W.zret (v := 0) hx hb hr (by decide) (fun t ht hW => ⟨0, rfl, by show _ = bI (cmL _ x8.2 (k8, z8, t8)); unfold cmL; simp only [g1, g2, g3]; rfl, ht⟩) (fun q h => absurd h List.not_mem_nil) d_MO_compared_185
      · obtain ⟨rfl, g1, g2, g3⟩ := hf8
        rcases hsx with hs9 | hs9 | hs9 | hs9 | hs9 | hs9
        · subst hs9
          refine W.eq (g2 := F0 m 96 ls [.int 0]) rfl ?_
          replace hl : lv_has ls 6 [(3, .int 1), (0, .ref y), (1, .int (rwI (bsK tr) (some x8))), (2, .int 1)] := hl
          refine lv_istore hx hb d_MO_compared_96 hl (by decide) rfl (fun ls hl => ?_)
          replace hl : lv_has ls 6 [(4, .int 0), (3, .int 1), (0, .ref y), (1, .int (rwI (bsK tr) (some x8))), (2, .int 1)] := hl
          refine lv_iload_n hx hb d_MO_compared_98 rfl (lv_at hl 1 rfl) ?_
          refine lv_if_eq (tgt := 111) hx hb d_MO_compared_99 rfl (fun h9 => absurd h9 (by decide)) (fun _ => ?_)
          refine lv_iload hx hb d_MO_compared_102 (lv_at hl 0 rfl) ?_
          refine lv_if_ne (tgt := 111) hx hb d_MO_compared_104 rfl (fun h9 => absurd (rfl) h9) (fun _ => ?_)
          refine lv_iconst (v := 1) hx hb d_MO_compared_107 (by decide) ?_
          refine lv_goto (tgt := 112) hx hb d_MO_compared_108 rfl ?_
          refine lv_istore hx hb d_MO_compared_112 hl (by decide) rfl (fun ls hl => ?_)
          replace hl : lv_has ls 6 [(5, .int 1), (4, .int 0), (3, .int 1), (0, .ref y), (1, .int (rwI (bsK tr) (some x8))), (2, .int 1)] := hl
          refine lv_iload_n hx hb d_MO_compared_114 rfl (lv_at hl 5 rfl) ?_
          refine lv_iconst (v := 2) hx hb d_MO_compared_115 (by decide) ?_
          refine lv_icmp_gt (tgt := 140) hx hb d_MO_compared_116 rfl (fun h9 => absurd h9 (by decide)) (fun _ => ?_)
          refine lv_iload hx hb d_MO_compared_119 (lv_at hl 0 rfl) ?_
          refine lv_iload_n hx hb d_MO_compared_121 rfl (lv_at hl 5 rfl) ?_
          refine lv_iconst (v := 1) hx hb d_MO_compared_122 (by decide) ?_
          refine lv_icmp_ne (tgt := 130) hx hb d_MO_compared_123 rfl (fun h9 => absurd (rfl) h9) (fun _ => ?_)
          refine lv_iconst (v := 1) hx hb d_MO_compared_126 (by decide) ?_
          refine lv_goto (tgt := 131) hx hb d_MO_compared_127 rfl ?_
          refine lv_icmp_ne (tgt := 138) hx hb d_MO_compared_131 rfl (fun h9 => absurd (rfl) h9) (fun _ => ?_)
          refine lv_iconst (v := 1) hx hb d_MO_compared_134 (by decide) ?_
          refine lv_goto (tgt := 139) hx hb d_MO_compared_135 rfl ?_
          rw [hQ]
          exact W.zret (v := 1) hx hb hr (by decide) (fun t ht hW => ⟨1, rfl, by show _ = bI (cmL _ x8.2 (k8, z8, t8)); unfold cmL; simp only [g1, g2, g3]; rfl, ht⟩) (fun q h => absurd h List.not_mem_nil) d_MO_compared_139
        · subst hs9
          refine W.eq (g2 := F0 m 96 ls [.int 0]) rfl ?_
          replace hl : lv_has ls 6 [(3, .int 1), (0, .ref y), (1, .int (rwI (bsK tr) (some x8))), (2, .int 2)] := hl
          refine lv_istore hx hb d_MO_compared_96 hl (by decide) rfl (fun ls hl => ?_)
          replace hl : lv_has ls 6 [(4, .int 0), (3, .int 1), (0, .ref y), (1, .int (rwI (bsK tr) (some x8))), (2, .int 2)] := hl
          refine lv_iload_n hx hb d_MO_compared_98 rfl (lv_at hl 1 rfl) ?_
          refine lv_if_eq (tgt := 111) hx hb d_MO_compared_99 rfl (fun h9 => absurd h9 (by decide)) (fun _ => ?_)
          refine lv_iload hx hb d_MO_compared_102 (lv_at hl 0 rfl) ?_
          refine lv_if_ne (tgt := 111) hx hb d_MO_compared_104 rfl (fun h9 => absurd (rfl) h9) (fun _ => ?_)
          refine lv_iconst (v := 1) hx hb d_MO_compared_107 (by decide) ?_
          refine lv_goto (tgt := 112) hx hb d_MO_compared_108 rfl ?_
          refine lv_istore hx hb d_MO_compared_112 hl (by decide) rfl (fun ls hl => ?_)
          replace hl : lv_has ls 6 [(5, .int 1), (4, .int 0), (3, .int 1), (0, .ref y), (1, .int (rwI (bsK tr) (some x8))), (2, .int 2)] := hl
          refine lv_iload_n hx hb d_MO_compared_114 rfl (lv_at hl 5 rfl) ?_
          refine lv_iconst (v := 2) hx hb d_MO_compared_115 (by decide) ?_
          refine lv_icmp_gt (tgt := 140) hx hb d_MO_compared_116 rfl (fun h9 => absurd h9 (by decide)) (fun _ => ?_)
          refine lv_iload hx hb d_MO_compared_119 (lv_at hl 0 rfl) ?_
          refine lv_iload_n hx hb d_MO_compared_121 rfl (lv_at hl 5 rfl) ?_
          refine lv_iconst (v := 1) hx hb d_MO_compared_122 (by decide) ?_
          refine lv_icmp_ne (tgt := 130) hx hb d_MO_compared_123 rfl (fun _ => ?_) (fun h9 => absurd h9 (by decide))
          refine lv_iconst (v := 0) hx hb d_MO_compared_130 (by decide) ?_
          refine lv_icmp_ne (tgt := 138) hx hb d_MO_compared_131 rfl (fun _ => ?_) (fun h9 => absurd h9 (by decide))
          refine lv_iconst (v := 0) hx hb d_MO_compared_138 (by decide) ?_
          rw [hQ]
          exact W.zret (v := 0) hx hb hr (by decide) (fun t ht hW => ⟨0, rfl, by show _ = bI (cmL _ x8.2 (k8, z8, t8)); unfold cmL; simp only [g1, g2, g3]; rfl, ht⟩) (fun q h => absurd h List.not_mem_nil) d_MO_compared_139
        · subst hs9
          refine W.eq (g2 := F0 m 96 ls [.int 0]) rfl ?_
          replace hl : lv_has ls 6 [(3, .int 1), (0, .ref y), (1, .int (rwI (bsK tr) (some x8))), (2, .int 3)] := hl
          refine lv_istore hx hb d_MO_compared_96 hl (by decide) rfl (fun ls hl => ?_)
          replace hl : lv_has ls 6 [(4, .int 0), (3, .int 1), (0, .ref y), (1, .int (rwI (bsK tr) (some x8))), (2, .int 3)] := hl
          refine lv_iload_n hx hb d_MO_compared_98 rfl (lv_at hl 1 rfl) ?_
          refine lv_if_eq (tgt := 111) hx hb d_MO_compared_99 rfl (fun h9 => absurd h9 (by decide)) (fun _ => ?_)
          refine lv_iload hx hb d_MO_compared_102 (lv_at hl 0 rfl) ?_
          refine lv_if_ne (tgt := 111) hx hb d_MO_compared_104 rfl (fun h9 => absurd (rfl) h9) (fun _ => ?_)
          refine lv_iconst (v := 1) hx hb d_MO_compared_107 (by decide) ?_
          refine lv_goto (tgt := 112) hx hb d_MO_compared_108 rfl ?_
          refine lv_istore hx hb d_MO_compared_112 hl (by decide) rfl (fun ls hl => ?_)
          replace hl : lv_has ls 6 [(5, .int 1), (4, .int 0), (3, .int 1), (0, .ref y), (1, .int (rwI (bsK tr) (some x8))), (2, .int 3)] := hl
          refine lv_iload_n hx hb d_MO_compared_114 rfl (lv_at hl 5 rfl) ?_
          refine lv_iconst (v := 2) hx hb d_MO_compared_115 (by decide) ?_
          refine lv_icmp_gt (tgt := 140) hx hb d_MO_compared_116 rfl (fun _ => ?_) (fun h9 => absurd (by decide) h9)
          refine lv_iload_n hx hb d_MO_compared_140 rfl (lv_at hl 5 rfl) ?_
          refine lv_iconst (v := 4) hx hb d_MO_compared_141 (by decide) ?_
          refine lv_icmp_eq (tgt := 151) hx hb d_MO_compared_142 rfl (fun h9 => absurd h9 (by decide)) (fun _ => ?_)
          refine lv_iload_n hx hb d_MO_compared_145 rfl (lv_at hl 5 rfl) ?_
          refine lv_bipush (v := 6) hx hb d_MO_compared_146 (by decide) ?_
          refine lv_icmp_ne (tgt := 158) hx hb d_MO_compared_148 rfl (fun _ => ?_) (fun h9 => absurd h9 (by decide))
          refine lv_iload_n hx hb d_MO_compared_158 rfl (lv_at hl 2 rfl) ?_
          refine lv_if_eq (tgt := 184) hx hb d_MO_compared_159 rfl (fun h9 => absurd h9 (by decide)) (fun _ => ?_)
          refine lv_iload_n hx hb d_MO_compared_162 rfl (lv_at hl 5 rfl) ?_
          refine lv_iconst (v := 4) hx hb d_MO_compared_163 (by decide) ?_
          refine lv_icmp_gt (tgt := 175) hx hb d_MO_compared_164 rfl (fun h9 => absurd h9 (by decide)) (fun _ => ?_)
          refine lv_iload hx hb d_MO_compared_167 (lv_at hl 1 rfl) ?_
          refine lv_if_ge (tgt := 184) hx hb d_MO_compared_169 rfl (fun _ => ?_) (fun h9 => absurd (by decide) h9)
          refine lv_iconst (v := 0) hx hb d_MO_compared_184 (by decide) ?_
          rw [hQ]
          exact W.zret (v := 0) hx hb hr (by decide) (fun t ht hW => ⟨0, rfl, by show _ = bI (cmL _ x8.2 (k8, z8, t8)); unfold cmL; simp only [g1, g2, g3]; rfl, ht⟩) (fun q h => absurd h List.not_mem_nil) d_MO_compared_185
        · subst hs9
          refine W.eq (g2 := F0 m 96 ls [.int 0]) rfl ?_
          replace hl : lv_has ls 6 [(3, .int 1), (0, .ref y), (1, .int (rwI (bsK tr) (some x8))), (2, .int 4)] := hl
          refine lv_istore hx hb d_MO_compared_96 hl (by decide) rfl (fun ls hl => ?_)
          replace hl : lv_has ls 6 [(4, .int 0), (3, .int 1), (0, .ref y), (1, .int (rwI (bsK tr) (some x8))), (2, .int 4)] := hl
          refine lv_iload_n hx hb d_MO_compared_98 rfl (lv_at hl 1 rfl) ?_
          refine lv_if_eq (tgt := 111) hx hb d_MO_compared_99 rfl (fun h9 => absurd h9 (by decide)) (fun _ => ?_)
          refine lv_iload hx hb d_MO_compared_102 (lv_at hl 0 rfl) ?_
          refine lv_if_ne (tgt := 111) hx hb d_MO_compared_104 rfl (fun h9 => absurd (rfl) h9) (fun _ => ?_)
          refine lv_iconst (v := 1) hx hb d_MO_compared_107 (by decide) ?_
          refine lv_goto (tgt := 112) hx hb d_MO_compared_108 rfl ?_
          refine lv_istore hx hb d_MO_compared_112 hl (by decide) rfl (fun ls hl => ?_)
          replace hl : lv_has ls 6 [(5, .int 1), (4, .int 0), (3, .int 1), (0, .ref y), (1, .int (rwI (bsK tr) (some x8))), (2, .int 4)] := hl
          refine lv_iload_n hx hb d_MO_compared_114 rfl (lv_at hl 5 rfl) ?_
          refine lv_iconst (v := 2) hx hb d_MO_compared_115 (by decide) ?_
          refine lv_icmp_gt (tgt := 140) hx hb d_MO_compared_116 rfl (fun _ => ?_) (fun h9 => absurd (by decide) h9)
          refine lv_iload_n hx hb d_MO_compared_140 rfl (lv_at hl 5 rfl) ?_
          refine lv_iconst (v := 4) hx hb d_MO_compared_141 (by decide) ?_
          refine lv_icmp_eq (tgt := 151) hx hb d_MO_compared_142 rfl (fun _ => ?_) (fun h9 => absurd (rfl) h9)
          refine lv_iload hx hb d_MO_compared_151 (lv_at hl 0 rfl) ?_
          refine lv_if_eq (tgt := 158) hx hb d_MO_compared_153 rfl (fun h9 => absurd h9 (by decide)) (fun _ => ?_)
          refine lv_iconst (v := 1) hx hb d_MO_compared_156 (by decide) ?_
          rw [hQ]
          exact W.zret (v := 1) hx hb hr (by decide) (fun t ht hW => ⟨1, rfl, by show _ = bI (cmL _ x8.2 (k8, z8, t8)); unfold cmL; simp only [g1, g2, g3]; rfl, ht⟩) (fun q h => absurd h List.not_mem_nil) d_MO_compared_157
        · subst hs9
          refine W.eq (g2 := F0 m 96 ls [.int 0]) rfl ?_
          replace hl : lv_has ls 6 [(3, .int 1), (0, .ref y), (1, .int (rwI (bsK tr) (some x8))), (2, .int 5)] := hl
          refine lv_istore hx hb d_MO_compared_96 hl (by decide) rfl (fun ls hl => ?_)
          replace hl : lv_has ls 6 [(4, .int 0), (3, .int 1), (0, .ref y), (1, .int (rwI (bsK tr) (some x8))), (2, .int 5)] := hl
          refine lv_iload_n hx hb d_MO_compared_98 rfl (lv_at hl 1 rfl) ?_
          refine lv_if_eq (tgt := 111) hx hb d_MO_compared_99 rfl (fun h9 => absurd h9 (by decide)) (fun _ => ?_)
          refine lv_iload hx hb d_MO_compared_102 (lv_at hl 0 rfl) ?_
          refine lv_if_ne (tgt := 111) hx hb d_MO_compared_104 rfl (fun h9 => absurd (rfl) h9) (fun _ => ?_)
          refine lv_iconst (v := 1) hx hb d_MO_compared_107 (by decide) ?_
          refine lv_goto (tgt := 112) hx hb d_MO_compared_108 rfl ?_
          refine lv_istore hx hb d_MO_compared_112 hl (by decide) rfl (fun ls hl => ?_)
          replace hl : lv_has ls 6 [(5, .int 1), (4, .int 0), (3, .int 1), (0, .ref y), (1, .int (rwI (bsK tr) (some x8))), (2, .int 5)] := hl
          refine lv_iload_n hx hb d_MO_compared_114 rfl (lv_at hl 5 rfl) ?_
          refine lv_iconst (v := 2) hx hb d_MO_compared_115 (by decide) ?_
          refine lv_icmp_gt (tgt := 140) hx hb d_MO_compared_116 rfl (fun _ => ?_) (fun h9 => absurd (by decide) h9)
          refine lv_iload_n hx hb d_MO_compared_140 rfl (lv_at hl 5 rfl) ?_
          refine lv_iconst (v := 4) hx hb d_MO_compared_141 (by decide) ?_
          refine lv_icmp_eq (tgt := 151) hx hb d_MO_compared_142 rfl (fun h9 => absurd h9 (by decide)) (fun _ => ?_)
          refine lv_iload_n hx hb d_MO_compared_145 rfl (lv_at hl 5 rfl) ?_
          refine lv_bipush (v := 6) hx hb d_MO_compared_146 (by decide) ?_
          refine lv_icmp_ne (tgt := 158) hx hb d_MO_compared_148 rfl (fun _ => ?_) (fun h9 => absurd h9 (by decide))
          refine lv_iload_n hx hb d_MO_compared_158 rfl (lv_at hl 2 rfl) ?_
          refine lv_if_eq (tgt := 184) hx hb d_MO_compared_159 rfl (fun h9 => absurd h9 (by decide)) (fun _ => ?_)
          refine lv_iload_n hx hb d_MO_compared_162 rfl (lv_at hl 5 rfl) ?_
          refine lv_iconst (v := 4) hx hb d_MO_compared_163 (by decide) ?_
          refine lv_icmp_gt (tgt := 175) hx hb d_MO_compared_164 rfl (fun _ => ?_) (fun h9 => absurd (by decide) h9)
          refine lv_iload hx hb d_MO_compared_175 (lv_at hl 1 rfl) ?_
          refine lv_if_le (tgt := 184) hx hb d_MO_compared_177 rfl (fun _ => ?_) (fun h9 => absurd (by decide) h9)
          refine lv_iconst (v := 0) hx hb d_MO_compared_184 (by decide) ?_
          rw [hQ]
          exact W.zret (v := 0) hx hb hr (by decide) (fun t ht hW => ⟨0, rfl, by show _ = bI (cmL _ x8.2 (k8, z8, t8)); unfold cmL; simp only [g1, g2, g3]; rfl, ht⟩) (fun q h => absurd h List.not_mem_nil) d_MO_compared_185
        · subst hs9
          refine W.eq (g2 := F0 m 96 ls [.int 0]) rfl ?_
          replace hl : lv_has ls 6 [(3, .int 1), (0, .ref y), (1, .int (rwI (bsK tr) (some x8))), (2, .int 6)] := hl
          refine lv_istore hx hb d_MO_compared_96 hl (by decide) rfl (fun ls hl => ?_)
          replace hl : lv_has ls 6 [(4, .int 0), (3, .int 1), (0, .ref y), (1, .int (rwI (bsK tr) (some x8))), (2, .int 6)] := hl
          refine lv_iload_n hx hb d_MO_compared_98 rfl (lv_at hl 1 rfl) ?_
          refine lv_if_eq (tgt := 111) hx hb d_MO_compared_99 rfl (fun h9 => absurd h9 (by decide)) (fun _ => ?_)
          refine lv_iload hx hb d_MO_compared_102 (lv_at hl 0 rfl) ?_
          refine lv_if_ne (tgt := 111) hx hb d_MO_compared_104 rfl (fun h9 => absurd (rfl) h9) (fun _ => ?_)
          refine lv_iconst (v := 1) hx hb d_MO_compared_107 (by decide) ?_
          refine lv_goto (tgt := 112) hx hb d_MO_compared_108 rfl ?_
          refine lv_istore hx hb d_MO_compared_112 hl (by decide) rfl (fun ls hl => ?_)
          replace hl : lv_has ls 6 [(5, .int 1), (4, .int 0), (3, .int 1), (0, .ref y), (1, .int (rwI (bsK tr) (some x8))), (2, .int 6)] := hl
          refine lv_iload_n hx hb d_MO_compared_114 rfl (lv_at hl 5 rfl) ?_
          refine lv_iconst (v := 2) hx hb d_MO_compared_115 (by decide) ?_
          refine lv_icmp_gt (tgt := 140) hx hb d_MO_compared_116 rfl (fun _ => ?_) (fun h9 => absurd (by decide) h9)
          refine lv_iload_n hx hb d_MO_compared_140 rfl (lv_at hl 5 rfl) ?_
          refine lv_iconst (v := 4) hx hb d_MO_compared_141 (by decide) ?_
          refine lv_icmp_eq (tgt := 151) hx hb d_MO_compared_142 rfl (fun h9 => absurd h9 (by decide)) (fun _ => ?_)
          refine lv_iload_n hx hb d_MO_compared_145 rfl (lv_at hl 5 rfl) ?_
          refine lv_bipush (v := 6) hx hb d_MO_compared_146 (by decide) ?_
          refine lv_icmp_ne (tgt := 158) hx hb d_MO_compared_148 rfl (fun h9 => absurd (rfl) h9) (fun _ => ?_)
          refine lv_iload hx hb d_MO_compared_151 (lv_at hl 0 rfl) ?_
          refine lv_if_eq (tgt := 158) hx hb d_MO_compared_153 rfl (fun h9 => absurd h9 (by decide)) (fun _ => ?_)
          refine lv_iconst (v := 1) hx hb d_MO_compared_156 (by decide) ?_
          rw [hQ]
          exact W.zret (v := 1) hx hb hr (by decide) (fun t ht hW => ⟨1, rfl, by show _ = bI (cmL _ x8.2 (k8, z8, t8)); unfold cmL; simp only [g1, g2, g3]; rfl, ht⟩) (fun q h => absurd h List.not_mem_nil) d_MO_compared_157
      · obtain ⟨rfl, g1, g2, g3⟩ := hf8
        rcases hsx with hs9 | hs9 | hs9 | hs9 | hs9 | hs9
        · subst hs9
          refine W.eq (g2 := F0 m 96 ls [.int 1]) rfl ?_
          replace hl : lv_has ls 6 [(3, .int 1), (0, .ref y), (1, .int (rwI (bsK tr) (some x8))), (2, .int 1)] := hl
          refine lv_istore hx hb d_MO_compared_96 hl (by decide) rfl (fun ls hl => ?_)
          replace hl : lv_has ls 6 [(4, .int 1), (3, .int 1), (0, .ref y), (1, .int (rwI (bsK tr) (some x8))), (2, .int 1)] := hl
          refine lv_iload_n hx hb d_MO_compared_98 rfl (lv_at hl 1 rfl) ?_
          refine lv_if_eq (tgt := 111) hx hb d_MO_compared_99 rfl (fun h9 => absurd h9 (by decide)) (fun _ => ?_)
          refine lv_iload hx hb d_MO_compared_102 (lv_at hl 0 rfl) ?_
          refine lv_if_ne (tgt := 111) hx hb d_MO_compared_104 rfl (fun _ => ?_) (fun h9 => absurd h9 (by decide))
          refine lv_iconst (v := 0) hx hb d_MO_compared_111 (by decide) ?_
          refine lv_istore hx hb d_MO_compared_112 hl (by decide) rfl (fun ls hl => ?_)
          replace hl : lv_has ls 6 [(5, .int 0), (4, .int 1), (3, .int 1), (0, .ref y), (1, .int (rwI (bsK tr) (some x8))), (2, .int 1)] := hl
          refine lv_iload_n hx hb d_MO_compared_114 rfl (lv_at hl 5 rfl) ?_
          refine lv_iconst (v := 2) hx hb d_MO_compared_115 (by decide) ?_
          refine lv_icmp_gt (tgt := 140) hx hb d_MO_compared_116 rfl (fun h9 => absurd h9 (by decide)) (fun _ => ?_)
          refine lv_iload hx hb d_MO_compared_119 (lv_at hl 0 rfl) ?_
          refine lv_iload_n hx hb d_MO_compared_121 rfl (lv_at hl 5 rfl) ?_
          refine lv_iconst (v := 1) hx hb d_MO_compared_122 (by decide) ?_
          refine lv_icmp_ne (tgt := 130) hx hb d_MO_compared_123 rfl (fun h9 => absurd (rfl) h9) (fun _ => ?_)
          refine lv_iconst (v := 1) hx hb d_MO_compared_126 (by decide) ?_
          refine lv_goto (tgt := 131) hx hb d_MO_compared_127 rfl ?_
          refine lv_icmp_ne (tgt := 138) hx hb d_MO_compared_131 rfl (fun _ => ?_) (fun h9 => absurd h9 (by decide))
          refine lv_iconst (v := 0) hx hb d_MO_compared_138 (by decide) ?_
          rw [hQ]
          exact W.zret (v := 0) hx hb hr (by decide) (fun t ht hW => ⟨0, rfl, by show _ = bI (cmL _ x8.2 (k8, z8, t8)); unfold cmL; simp only [g1, g2, g3]; rfl, ht⟩) (fun q h => absurd h List.not_mem_nil) d_MO_compared_139
        · subst hs9
          refine W.eq (g2 := F0 m 96 ls [.int 1]) rfl ?_
          replace hl : lv_has ls 6 [(3, .int 1), (0, .ref y), (1, .int (rwI (bsK tr) (some x8))), (2, .int 2)] := hl
          refine lv_istore hx hb d_MO_compared_96 hl (by decide) rfl (fun ls hl => ?_)
          replace hl : lv_has ls 6 [(4, .int 1), (3, .int 1), (0, .ref y), (1, .int (rwI (bsK tr) (some x8))), (2, .int 2)] := hl
          refine lv_iload_n hx hb d_MO_compared_98 rfl (lv_at hl 1 rfl) ?_
          refine lv_if_eq (tgt := 111) hx hb d_MO_compared_99 rfl (fun h9 => absurd h9 (by decide)) (fun _ => ?_)
          refine lv_iload hx hb d_MO_compared_102 (lv_at hl 0 rfl) ?_
          refine lv_if_ne (tgt := 111) hx hb d_MO_compared_104 rfl (fun _ => ?_) (fun h9 => absurd h9 (by decide))
          refine lv_iconst (v := 0) hx hb d_MO_compared_111 (by decide) ?_
          refine lv_istore hx hb d_MO_compared_112 hl (by decide) rfl (fun ls hl => ?_)
          replace hl : lv_has ls 6 [(5, .int 0), (4, .int 1), (3, .int 1), (0, .ref y), (1, .int (rwI (bsK tr) (some x8))), (2, .int 2)] := hl
          refine lv_iload_n hx hb d_MO_compared_114 rfl (lv_at hl 5 rfl) ?_
          refine lv_iconst (v := 2) hx hb d_MO_compared_115 (by decide) ?_
          refine lv_icmp_gt (tgt := 140) hx hb d_MO_compared_116 rfl (fun h9 => absurd h9 (by decide)) (fun _ => ?_)
          refine lv_iload hx hb d_MO_compared_119 (lv_at hl 0 rfl) ?_
          refine lv_iload_n hx hb d_MO_compared_121 rfl (lv_at hl 5 rfl) ?_
          refine lv_iconst (v := 1) hx hb d_MO_compared_122 (by decide) ?_
          refine lv_icmp_ne (tgt := 130) hx hb d_MO_compared_123 rfl (fun _ => ?_) (fun h9 => absurd h9 (by decide))
          refine lv_iconst (v := 0) hx hb d_MO_compared_130 (by decide) ?_
          refine lv_icmp_ne (tgt := 138) hx hb d_MO_compared_131 rfl (fun h9 => absurd (rfl) h9) (fun _ => ?_)
          refine lv_iconst (v := 1) hx hb d_MO_compared_134 (by decide) ?_
          refine lv_goto (tgt := 139) hx hb d_MO_compared_135 rfl ?_
          rw [hQ]
          exact W.zret (v := 1) hx hb hr (by decide) (fun t ht hW => ⟨1, rfl, by show _ = bI (cmL _ x8.2 (k8, z8, t8)); unfold cmL; simp only [g1, g2, g3]; rfl, ht⟩) (fun q h => absurd h List.not_mem_nil) d_MO_compared_139
        · subst hs9
          refine W.eq (g2 := F0 m 96 ls [.int 1]) rfl ?_
          replace hl : lv_has ls 6 [(3, .int 1), (0, .ref y), (1, .int (rwI (bsK tr) (some x8))), (2, .int 3)] := hl
          refine lv_istore hx hb d_MO_compared_96 hl (by decide) rfl (fun ls hl => ?_)
          replace hl : lv_has ls 6 [(4, .int 1), (3, .int 1), (0, .ref y), (1, .int (rwI (bsK tr) (some x8))), (2, .int 3)] := hl
          refine lv_iload_n hx hb d_MO_compared_98 rfl (lv_at hl 1 rfl) ?_
          refine lv_if_eq (tgt := 111) hx hb d_MO_compared_99 rfl (fun h9 => absurd h9 (by decide)) (fun _ => ?_)
          refine lv_iload hx hb d_MO_compared_102 (lv_at hl 0 rfl) ?_
          refine lv_if_ne (tgt := 111) hx hb d_MO_compared_104 rfl (fun _ => ?_) (fun h9 => absurd h9 (by decide))
          refine lv_iconst (v := 0) hx hb d_MO_compared_111 (by decide) ?_
          refine lv_istore hx hb d_MO_compared_112 hl (by decide) rfl (fun ls hl => ?_)
          replace hl : lv_has ls 6 [(5, .int 0), (4, .int 1), (3, .int 1), (0, .ref y), (1, .int (rwI (bsK tr) (some x8))), (2, .int 3)] := hl
          refine lv_iload_n hx hb d_MO_compared_114 rfl (lv_at hl 5 rfl) ?_
          refine lv_iconst (v := 2) hx hb d_MO_compared_115 (by decide) ?_
          refine lv_icmp_gt (tgt := 140) hx hb d_MO_compared_116 rfl (fun _ => ?_) (fun h9 => absurd (by decide) h9)
          refine lv_iload_n hx hb d_MO_compared_140 rfl (lv_at hl 5 rfl) ?_
          refine lv_iconst (v := 4) hx hb d_MO_compared_141 (by decide) ?_
          refine lv_icmp_eq (tgt := 151) hx hb d_MO_compared_142 rfl (fun h9 => absurd h9 (by decide)) (fun _ => ?_)
          refine lv_iload_n hx hb d_MO_compared_145 rfl (lv_at hl 5 rfl) ?_
          refine lv_bipush (v := 6) hx hb d_MO_compared_146 (by decide) ?_
          refine lv_icmp_ne (tgt := 158) hx hb d_MO_compared_148 rfl (fun _ => ?_) (fun h9 => absurd h9 (by decide))
          refine lv_iload_n hx hb d_MO_compared_158 rfl (lv_at hl 2 rfl) ?_
          refine lv_if_eq (tgt := 184) hx hb d_MO_compared_159 rfl (fun h9 => absurd h9 (by decide)) (fun _ => ?_)
          refine lv_iload_n hx hb d_MO_compared_162 rfl (lv_at hl 5 rfl) ?_
          refine lv_iconst (v := 4) hx hb d_MO_compared_163 (by decide) ?_
          refine lv_icmp_gt (tgt := 175) hx hb d_MO_compared_164 rfl (fun h9 => absurd h9 (by decide)) (fun _ => ?_)
          refine lv_iload hx hb d_MO_compared_167 (lv_at hl 1 rfl) ?_
          refine lv_if_ge (tgt := 184) hx hb d_MO_compared_169 rfl (fun _ => ?_) (fun h9 => absurd (by decide) h9)
          refine lv_iconst (v := 0) hx hb d_MO_compared_184 (by decide) ?_
          rw [hQ]
          exact W.zret (v := 0) hx hb hr (by decide) (fun t ht hW => ⟨0, rfl, by show _ = bI (cmL _ x8.2 (k8, z8, t8)); unfold cmL; simp only [g1, g2, g3]; rfl, ht⟩) (fun q h => absurd h List.not_mem_nil) d_MO_compared_185
        · subst hs9
          refine W.eq (g2 := F0 m 96 ls [.int 1]) rfl ?_
          replace hl : lv_has ls 6 [(3, .int 1), (0, .ref y), (1, .int (rwI (bsK tr) (some x8))), (2, .int 4)] := hl
          refine lv_istore hx hb d_MO_compared_96 hl (by decide) rfl (fun ls hl => ?_)
          replace hl : lv_has ls 6 [(4, .int 1), (3, .int 1), (0, .ref y), (1, .int (rwI (bsK tr) (some x8))), (2, .int 4)] := hl
          refine lv_iload_n hx hb d_MO_compared_98 rfl (lv_at hl 1 rfl) ?_
          refine lv_if_eq (tgt := 111) hx hb d_MO_compared_99 rfl (fun h9 => absurd h9 (by decide)) (fun _ => ?_)
          refine lv_iload hx hb d_MO_compared_102 (lv_at hl 0 rfl) ?_
          refine lv_if_ne (tgt := 111) hx hb d_MO_compared_104 rfl (fun _ => ?_) (fun h9 => absurd h9 (by decide))
          refine lv_iconst (v := 0) hx hb d_MO_compared_111 (by decide) ?_
          refine lv_istore hx hb d_MO_compared_112 hl (by decide) rfl (fun ls hl => ?_)
          replace hl : lv_has ls 6 [(5, .int 0), (4, .int 1), (3, .int 1), (0, .ref y), (1, .int (rwI (bsK tr) (some x8))), (2, .int 4)] := hl
          refine lv_iload_n hx hb d_MO_compared_114 rfl (lv_at hl 5 rfl) ?_
          refine lv_iconst (v := 2) hx hb d_MO_compared_115 (by decide) ?_
          refine lv_icmp_gt (tgt := 140) hx hb d_MO_compared_116 rfl (fun _ => ?_) (fun h9 => absurd (by decide) h9)
          refine lv_iload_n hx hb d_MO_compared_140 rfl (lv_at hl 5 rfl) ?_
          refine lv_iconst (v := 4) hx hb d_MO_compared_141 (by decide) ?_
          refine lv_icmp_eq (tgt := 151) hx hb d_MO_compared_142 rfl (fun _ => ?_) (fun h9 => absurd (rfl) h9)
          refine lv_iload hx hb d_MO_compared_151 (lv_at hl 0 rfl) ?_
          refine lv_if_eq (tgt := 158) hx hb d_MO_compared_153 rfl (fun _ => ?_) (fun h9 => absurd (rfl) h9)
          refine lv_iload_n hx hb d_MO_compared_158 rfl (lv_at hl 2 rfl) ?_
          refine lv_if_eq (tgt := 184) hx hb d_MO_compared_159 rfl (fun h9 => absurd h9 (by decide)) (fun _ => ?_)
          refine lv_iload_n hx hb d_MO_compared_162 rfl (lv_at hl 5 rfl) ?_
          refine lv_iconst (v := 4) hx hb d_MO_compared_163 (by decide) ?_
          refine lv_icmp_gt (tgt := 175) hx hb d_MO_compared_164 rfl (fun h9 => absurd h9 (by decide)) (fun _ => ?_)
          refine lv_iload hx hb d_MO_compared_167 (lv_at hl 1 rfl) ?_
          refine lv_if_ge (tgt := 184) hx hb d_MO_compared_169 rfl (fun _ => ?_) (fun h9 => absurd (by decide) h9)
          refine lv_iconst (v := 0) hx hb d_MO_compared_184 (by decide) ?_
          rw [hQ]
          exact W.zret (v := 0) hx hb hr (by decide) (fun t ht hW => ⟨0, rfl, by show _ = bI (cmL _ x8.2 (k8, z8, t8)); unfold cmL; simp only [g1, g2, g3]; rfl, ht⟩) (fun q h => absurd h List.not_mem_nil) d_MO_compared_185
        · subst hs9
          refine W.eq (g2 := F0 m 96 ls [.int 1]) rfl ?_
          replace hl : lv_has ls 6 [(3, .int 1), (0, .ref y), (1, .int (rwI (bsK tr) (some x8))), (2, .int 5)] := hl
          refine lv_istore hx hb d_MO_compared_96 hl (by decide) rfl (fun ls hl => ?_)
          replace hl : lv_has ls 6 [(4, .int 1), (3, .int 1), (0, .ref y), (1, .int (rwI (bsK tr) (some x8))), (2, .int 5)] := hl
          refine lv_iload_n hx hb d_MO_compared_98 rfl (lv_at hl 1 rfl) ?_
          refine lv_if_eq (tgt := 111) hx hb d_MO_compared_99 rfl (fun h9 => absurd h9 (by decide)) (fun _ => ?_)
          refine lv_iload hx hb d_MO_compared_102 (lv_at hl 0 rfl) ?_
          refine lv_if_ne (tgt := 111) hx hb d_MO_compared_104 rfl (fun _ => ?_) (fun h9 => absurd h9 (by decide))
          refine lv_iconst (v := 0) hx hb d_MO_compared_111 (by decide) ?_
          refine lv_istore hx hb d_MO_compared_112 hl (by decide) rfl (fun ls hl => ?_)
          replace hl : lv_has ls 6 [(5, .int 0), (4, .int 1), (3, .int 1), (0, .ref y), (1, .int (rwI (bsK tr) (some x8))), (2, .int 5)] := hl
          refine lv_iload_n hx hb d_MO_compared_114 rfl (lv_at hl 5 rfl) ?_
          refine lv_iconst (v := 2) hx hb d_MO_compared_115 (by decide) ?_
          refine lv_icmp_gt (tgt := 140) hx hb d_MO_compared_116 rfl (fun _ => ?_) (fun h9 => absurd (by decide) h9)
          refine lv_iload_n hx hb d_MO_compared_140 rfl (lv_at hl 5 rfl) ?_
          refine lv_iconst (v := 4) hx hb d_MO_compared_141 (by decide) ?_
          refine lv_icmp_eq (tgt := 151) hx hb d_MO_compared_142 rfl (fun h9 => absurd h9 (by decide)) (fun _ => ?_)
          refine lv_iload_n hx hb d_MO_compared_145 rfl (lv_at hl 5 rfl) ?_
          refine lv_bipush (v := 6) hx hb d_MO_compared_146 (by decide) ?_
          refine lv_icmp_ne (tgt := 158) hx hb d_MO_compared_148 rfl (fun _ => ?_) (fun h9 => absurd h9 (by decide))
          refine lv_iload_n hx hb d_MO_compared_158 rfl (lv_at hl 2 rfl) ?_
          refine lv_if_eq (tgt := 184) hx hb d_MO_compared_159 rfl (fun h9 => absurd h9 (by decide)) (fun _ => ?_)
          refine lv_iload_n hx hb d_MO_compared_162 rfl (lv_at hl 5 rfl) ?_
          refine lv_iconst (v := 4) hx hb d_MO_compared_163 (by decide) ?_
          refine lv_icmp_gt (tgt := 175) hx hb d_MO_compared_164 rfl (fun _ => ?_) (fun h9 => absurd (by decide) h9)
          refine lv_iload hx hb d_MO_compared_175 (lv_at hl 1 rfl) ?_
          refine lv_if_le (tgt := 184) hx hb d_MO_compared_177 rfl (fun h9 => absurd h9 (by decide)) (fun _ => ?_)
          refine lv_iconst (v := 1) hx hb d_MO_compared_180 (by decide) ?_
          refine lv_goto (tgt := 185) hx hb d_MO_compared_181 rfl ?_
          rw [hQ]
          exact W.zret (v := 1) hx hb hr (by decide) (fun t ht hW => ⟨1, rfl, by show _ = bI (cmL _ x8.2 (k8, z8, t8)); unfold cmL; simp only [g1, g2, g3]; rfl, ht⟩) (fun q h => absurd h List.not_mem_nil) d_MO_compared_185
        · subst hs9
          refine W.eq (g2 := F0 m 96 ls [.int 1]) rfl ?_
          replace hl : lv_has ls 6 [(3, .int 1), (0, .ref y), (1, .int (rwI (bsK tr) (some x8))), (2, .int 6)] := hl
          refine lv_istore hx hb d_MO_compared_96 hl (by decide) rfl (fun ls hl => ?_)
          replace hl : lv_has ls 6 [(4, .int 1), (3, .int 1), (0, .ref y), (1, .int (rwI (bsK tr) (some x8))), (2, .int 6)] := hl
          refine lv_iload_n hx hb d_MO_compared_98 rfl (lv_at hl 1 rfl) ?_
          refine lv_if_eq (tgt := 111) hx hb d_MO_compared_99 rfl (fun h9 => absurd h9 (by decide)) (fun _ => ?_)
          refine lv_iload hx hb d_MO_compared_102 (lv_at hl 0 rfl) ?_
          refine lv_if_ne (tgt := 111) hx hb d_MO_compared_104 rfl (fun _ => ?_) (fun h9 => absurd h9 (by decide))
          refine lv_iconst (v := 0) hx hb d_MO_compared_111 (by decide) ?_
          refine lv_istore hx hb d_MO_compared_112 hl (by decide) rfl (fun ls hl => ?_)
          replace hl : lv_has ls 6 [(5, .int 0), (4, .int 1), (3, .int 1), (0, .ref y), (1, .int (rwI (bsK tr) (some x8))), (2, .int 6)] := hl
          refine lv_iload_n hx hb d_MO_compared_114 rfl (lv_at hl 5 rfl) ?_
          refine lv_iconst (v := 2) hx hb d_MO_compared_115 (by decide) ?_
          refine lv_icmp_gt (tgt := 140) hx hb d_MO_compared_116 rfl (fun _ => ?_) (fun h9 => absurd (by decide) h9)
          refine lv_iload_n hx hb d_MO_compared_140 rfl (lv_at hl 5 rfl) ?_
          refine lv_iconst (v := 4) hx hb d_MO_compared_141 (by decide) ?_
          refine lv_icmp_eq (tgt := 151) hx hb d_MO_compared_142 rfl (fun h9 => absurd h9 (by decide)) (fun _ => ?_)
          refine lv_iload_n hx hb d_MO_compared_145 rfl (lv_at hl 5 rfl) ?_
          refine lv_bipush (v := 6) hx hb d_MO_compared_146 (by decide) ?_
          refine lv_icmp_ne (tgt := 158) hx hb d_MO_compared_148 rfl (fun h9 => absurd (rfl) h9) (fun _ => ?_)
          refine lv_iload hx hb d_MO_compared_151 (lv_at hl 0 rfl) ?_
          refine lv_if_eq (tgt := 158) hx hb d_MO_compared_153 rfl (fun _ => ?_) (fun h9 => absurd (rfl) h9)
          refine lv_iload_n hx hb d_MO_compared_158 rfl (lv_at hl 2 rfl) ?_
          refine lv_if_eq (tgt := 184) hx hb d_MO_compared_159 rfl (fun h9 => absurd h9 (by decide)) (fun _ => ?_)
          refine lv_iload_n hx hb d_MO_compared_162 rfl (lv_at hl 5 rfl) ?_
          refine lv_iconst (v := 4) hx hb d_MO_compared_163 (by decide) ?_
          refine lv_icmp_gt (tgt := 175) hx hb d_MO_compared_164 rfl (fun _ => ?_) (fun h9 => absurd (by decide) h9)
          refine lv_iload hx hb d_MO_compared_175 (lv_at hl 1 rfl) ?_
          refine lv_if_le (tgt := 184) hx hb d_MO_compared_177 rfl (fun h9 => absurd h9 (by decide)) (fun _ => ?_)
          refine lv_iconst (v := 1) hx hb d_MO_compared_180 (by decide) ?_
          refine lv_goto (tgt := 185) hx hb d_MO_compared_181 rfl ?_
          rw [hQ]
          exact W.zret (v := 1) hx hb hr (by decide) (fun t ht hW => ⟨1, rfl, by show _ = bI (cmL _ x8.2 (k8, z8, t8)); unfold cmL; simp only [g1, g2, g3]; rfl, ht⟩) (fun q h => absurd h List.not_mem_nil) d_MO_compared_185
  rcases xo with _ | x
  · refine lv_iload_n hx hb d_MO_compared_0 rfl (lv_at hl 1 rfl) ?_
    refine W.eq (g2 := F0 m 1 ls [.int (-1)]) rfl ?_
    refine lv_if_lt (tgt := 21) hx hb d_MO_compared_1 rfl (fun _ => ?_) (fun h9 => absurd (by decide) h9)
    refine lv_iconst (v := 0) hx hb d_MO_compared_21 (by decide) ?_
    refine W.eq (g2 := F0 m 22 ls [.int (bI false)]) rfl ?_
    refine lv_istore_n hx hb d_MO_compared_22 rfl hl (by decide) rfl (fun ls hl => ?_)
    replace hl : lv_has ls 6 [(3, .int (bI false)), (0, .ref y), (1, .int (rwI (bsK tr) (none : Option Plc))), (2, .int (nI s8))] := hl
    refine lv_iload_n hx hb d_MO_compared_23 rfl (lv_at hl 0 rfl) ?_
    refine lv_if_eq (tgt := 75) hx hb d_MO_compared_24 rfl (fun _ => ?_) (fun h9 => absurd (rfl) h9)
    refine lv_iload_n hx hb d_MO_compared_75 rfl (lv_at hl 0 rfl) ?_
    refine lv_if_eq (tgt := 95) hx hb d_MO_compared_76 rfl (fun _ => ?_) (fun h9 => absurd (rfl) h9)
    refine lv_iconst (v := 0) hx hb d_MO_compared_95 (by decide) ?_
    exact hjoinO false 0 ls (Or.inl ⟨rfl, rfl, trivial⟩) (lv_sub hl [0, 1, 2, 3] rfl)
  · obtain ⟨l1, nm1, e1, hs1, hw1, he1⟩ := hxo x rfl
    have hle1 := hs1.le
    have hpo1 := wr_pos hw1
    obtain ⟨k1, num1, rt1, ee1, hk1x, hk5, hk6, hws⟩ := wr_parts hw1
    have hs2 : SUB w0 x.1 l1 nm1 ((k1, 0, num1, rt1, []) :: kidRows k1 (ksN x.2) (ksR x.2)) := ee1 ▸ hs1
    have hw2 : WR (e1 + 1) ((k1, 0, num1, rt1, []) :: kidRows k1 (ksN x.2) (ksR x.2)) := ee1 ▸ hw1
    have hkid := hs2.kids (ksN_len x.2) hws
    have hend := hs2.end_ hw2 (ksN_len x.2)
    have hkf := (hTR.at hs2.row).2.1
    have hrl : (ksR x.2).length ≤ slen (ksR x.2) := kid_len hws
    have hLx : x.2.length = 1 + slen (ksR x.2) := by have h9 := congrArg List.length ee1; rw [List.length_cons, len_kids k1 _ _ (ksN_len x.2)] at h9; omega
    have hrow := hTR _ _ hs2.row
    have htx : txR x.2 = rt1 := by rw [ee1]; rfl
    have hnu : hdN x.2 = num1 := by rw [ee1]; rfl
    refine lv_iload_n hx hb d_MO_compared_0 rfl (lv_at hl 1 rfl) ?_
    refine W.eq (g2 := F0 m 1 ls [.int (nI (bsK tr + x.1))]) rfl ?_
    refine lv_if_lt (tgt := 21) hx hb d_MO_compared_1 rfl (fun h9 => absurd h9 (nI_pos (by omega))) (fun _ => ?_)
    refine lv_aload_n hx hb d_MO_compared_4 rfl (lv_at hl 0 rfl) ?_
    refine va_get (D := (dC, dI)) (ci := 12) (v := .ref a_kind) (C := R_MO) (T := T_MO) (N := 41) hx hb htb in_MO hown hK hP 0 rfl rfl 3 (by decide) (htb _ m_1142) (fun _ h9 => h9) rfl d_MO_compared_5 ?_
    refine lv_iload_n hx hb d_MO_compared_8 rfl (lv_at hl 1 rfl) ?_
    refine W.eq (g2 := F0 m 9 ls [.int (nI (bsK tr + x.1)), .ref a_kind]) rfl ?_
    refine va_iald hx hb hK hP 1 0 rfl rfl (vp_in_nI (by omega) (by omega)) d_MO_compared_9 ?_
    refine W.eq (congrArg (fun z => F0 m 10 ls (.int z :: [])) (by rw [nI_clamp (by omega)]; exact hkf : (kf (nI (bsK tr + x.1)).toNatClampNeg) = nI k1)) ?_
    refine lv_aload_n hx hb d_MO_compared_10 rfl (lv_at hl 0 rfl) ?_
    refine va_get (D := (dC, dI)) (ci := 12) (v := .int (nI k8)) (C := R_MO) (T := T_MO) (N := 41) hx hb htb in_MO hown hK hP 0 rfl rfl 22 (by decide) (htb _ m_1161) (fun _ h9 => h9) rfl d_MO_compared_11 ?_
    refine lv_icmp_ne (tgt := 21) hx hb d_MO_compared_14 rfl (fun h1 => ?_) (fun h1 => ?_)
    · have h1 : ¬ k1 = k8 := fun h => h1 (by rw [h])
      have hk9 : ¬ hdK x.2 = k8 := fun h => h1 (hk1x.symm.trans h)
      refine lv_iconst (v := 0) hx hb d_MO_compared_21 (by decide) ?_
      refine W.eq (g2 := F0 m 22 ls [.int (bI false)]) rfl ?_
      refine lv_istore_n hx hb d_MO_compared_22 rfl hl (by decide) rfl (fun ls hl => ?_)
      replace hl : lv_has ls 6 [(3, .int (bI false)), (0, .ref y), (1, .int (rwI (bsK tr) (some x))), (2, .int (nI s8))] := hl
      refine lv_iload_n hx hb d_MO_compared_23 rfl (lv_at hl 0 rfl) ?_
      refine lv_if_eq (tgt := 75) hx hb d_MO_compared_24 rfl (fun _ => ?_) (fun h9 => absurd (rfl) h9)
      refine lv_iload_n hx hb d_MO_compared_75 rfl (lv_at hl 0 rfl) ?_
      refine lv_if_eq (tgt := 95) hx hb d_MO_compared_76 rfl (fun _ => ?_) (fun h9 => absurd (rfl) h9)
      refine lv_iconst (v := 0) hx hb d_MO_compared_95 (by decide) ?_
      exact hjoinO false 0 ls (Or.inl ⟨rfl, rfl, by show smL x.2 (k8, z8, t8) = false; unfold smL; rw [decide_eq_false hk9]; rfl, by show lsL x.2 (k8, z8, t8) = false; unfold lsL; rw [if_neg (fun h => hk9 (h.1.trans h.2.symm))]; by_cases h4 : hdK x.2 = 4; (rw [decide_eq_false (show ¬ k8 = 4 from fun h => hk9 (h4.trans h.symm))]; simp); (rw [decide_eq_false h4]; rfl), by show grL x.2 (k8, z8, t8) = false; unfold grL; rw [if_neg (fun h => hk9 (h.1.trans h.2.symm))]; by_cases h4 : hdK x.2 = 4; (rw [decide_eq_false (show ¬ k8 = 4 from fun h => hk9 (h4.trans h.symm))]; simp); (rw [decide_eq_false h4]; rfl)⟩) (lv_sub hl [0, 1, 2, 3] rfl)
    · have h1 : k1 = k8 := (nI_eq (by omega) (by omega)).mp h1
      have hk9 : hdK x.2 = k8 := hk1x.trans h1
      refine lv_iconst (v := 1) hx hb d_MO_compared_17 (by decide) ?_
      refine lv_goto (tgt := 22) hx hb d_MO_compared_18 rfl ?_
      refine W.eq (g2 := F0 m 22 ls [.int (bI true)]) rfl ?_
      refine lv_istore_n hx hb d_MO_compared_22 rfl hl (by decide) rfl (fun ls hl => ?_)
      replace hl : lv_has ls 6 [(3, .int (bI true)), (0, .ref y), (1, .int (rwI (bsK tr) (some x))), (2, .int (nI s8))] := hl
      refine lv_iload_n hx hb d_MO_compared_23 rfl (lv_at hl 0 rfl) ?_
      refine lv_if_eq (tgt := 75) hx hb d_MO_compared_24 rfl (fun h9 => absurd h9 (by decide)) (fun _ => ?_)
      refine lv_aload_n hx hb d_MO_compared_27 rfl (lv_at hl 1 rfl) ?_
      refine va_get (D := (dC, dI)) (ci := 12) (v := .int (nI k8)) (C := R_MO) (T := T_MO) (N := 41) hx hb htb in_MO hown hK hP 0 rfl rfl 22 (by decide) (htb _ m_1161) (fun _ h9 => h9) rfl d_MO_compared_28 ?_
      refine lv_iconst (v := 3) hx hb d_MO_compared_31 (by decide) ?_
      refine lv_icmp_ne (tgt := 75) hx hb d_MO_compared_32 rfl (fun h3 => ?_) (fun h3 => ?_)
      · have h3 : ¬ k8 = 3 := fun h => h3 (by rw [h]; rfl)
        refine lv_iload_n hx hb d_MO_compared_75 rfl (lv_at hl 0 rfl) ?_
        refine lv_if_eq (tgt := 95) hx hb d_MO_compared_76 rfl (fun h9 => absurd h9 (by decide)) (fun _ => ?_)
        refine lv_aload_n hx hb d_MO_compared_79 rfl (lv_at hl 1 rfl) ?_
        refine va_get (D := (dC, dI)) (ci := 12) (v := .int (nI k8)) (C := R_MO) (T := T_MO) (N := 41) hx hb htb in_MO hown hK hP 0 rfl rfl 22 (by decide) (htb _ m_1161) (fun _ h9 => h9) rfl d_MO_compared_80 ?_
        refine lv_iconst (v := 4) hx hb d_MO_compared_83 (by decide) ?_
        have hS0 : smL x.2 (k8, z8, t8) = (if k8 = 4 then decide (txR x.2 = t8) else true) := by unfold smL; rw [decide_eq_true hk9, if_neg h3]; rfl
        have hL0 : lsL x.2 (k8, z8, t8) = (decide (k8 = 4) && ltT (txR x.2) t8) := by unfold lsL; rw [if_neg (fun h => h3 h.2), hk9]; cases decide (k8 = 4) <;> rfl
        have hG0 : grL x.2 (k8, z8, t8) = (decide (k8 = 4) && ltT t8 (txR x.2)) := by unfold grL; rw [if_neg (fun h => h3 h.2), hk9]; cases decide (k8 = 4) <;> rfl
        refine lv_icmp_ne (tgt := 95) hx hb d_MO_compared_84 rfl (fun h4 => ?_) (fun h4 => ?_)
        · have h4 : ¬ k8 = 4 := fun h => h4 (by rw [h]; rfl)
          refine lv_iconst (v := 0) hx hb d_MO_compared_95 (by decide) ?_
          exact hjoinO true 0 ls (Or.inr ⟨rfl, x, rfl, Or.inr (Or.inl ⟨rfl, by rw [hS0, if_neg h4], by rw [hL0, decide_eq_false h4]; rfl, by rw [hG0, decide_eq_false h4]; rfl⟩)⟩) (lv_sub hl [0, 1, 2, 3] rfl)
        · have h4 : k8 = 4 := (nI_eq (by omega) (by decide)).mp h4
          obtain ⟨hlt, hwz1, hwz2, hwz3⟩ := hwz h4
          obtain ⟨pq, hq1, hq2, hq3⟩ := hrow.2.2.2.2.2.1 (h1.trans h4)
          subst hlt
          refine lv_aload_n hx hb d_MO_compared_87 rfl (lv_at hl 1 rfl) ?_
          refine lv_iload_n hx hb d_MO_compared_88 rfl (lv_at hl 2 rfl) ?_
          refine W.eq (g2 := F0 m 89 ls [.int (nI (bsK tr + x.1)), .ref y]) rfl ?_
          have hPc : va_P (dC, dI) vwCl [(y, .inr (12, [.int lim, .int rm, .ref a_size, .ref a_kind, .ref a_level, .ref a_at, .ref a_len, .ref a_nameAt, .ref a_nameLen, .ref a_num, .ref a_pool, .int i_pooled, .ref a_draft, .int (nI L.length), .int (nI a), .int i_code, .ref a_open, .int i_opened, .int i_heldAt, .int i_heldLen, .ref a_word, .int (nI t8.length), .int (nI k8), .int bd, .int gi, .long (lI z8), .ref a_list, .ref a_next, .ref a_result, .int i_listed, .int fo, .int (nI tr), .int i_results, .int fu, .int i_working, .ref a_twin, .int i_seen, .int i_wanted, .int i_got, .ref a_came, .ref a_closer])), (a_len, .inl (cI, 576, .inl lf)), (a_at, .inl (cI, 576, .inl af)), (a_pool, .inl (cC, 8400, .inl pf)), (a_word, .inl (cC, 160, .inl wf))] _ := hP.sub (ws' := [(y, .inr (12, [.int lim, .int rm, .ref a_size, .ref a_kind, .ref a_level, .ref a_at, .ref a_len, .ref a_nameAt, .ref a_nameLen, .ref a_num, .ref a_pool, .int i_pooled, .ref a_draft, .int (nI L.length), .int (nI a), .int i_code, .ref a_open, .int i_opened, .int i_heldAt, .int i_heldLen, .ref a_word, .int (nI t8.length), .int (nI k8), .int bd, .int gi, .long (lI z8), .ref a_list, .ref a_next, .ref a_result, .int i_listed, .int fo, .int (nI tr), .int i_results, .int fu, .int i_working, .ref a_twin, .int i_seen, .int i_wanted, .int i_got, .ref a_came, .ref a_closer])), (a_len, .inl (cI, 576, .inl lf)), (a_at, .inl (cI, 576, .inl af)), (a_pool, .inl (cC, 8400, .inl pf)), (a_word, .inl (cC, 160, .inl wf))]) [0, 3, 4, 5, 6] rfl
          have hKc := hK.sub (tys' := [(cI, .int), (cC, .char)]) [0, 1] rfl
          refine vp_callSi (W.runV (As := [.int (nI (bsK tr + x.1))]) (rest := []) ⟨hx, hb, hml, hown, htb⟩ (q_MO_ordered l dC dI y lim rm a_size a_kind a_level a_at a_len a_nameAt a_nameLen a_num a_pool a_draft a_open a_word a_list a_next a_result a_twin a_came a_closer i_pooled i_code i_opened i_heldAt i_heldLen i_listed i_results i_working i_seen i_wanted i_got cC cI cL f L a (lI z8) tr bd gi (nI k8) fo fu kf vf af lf xf nf uf pf pn wf (bsK tr + x.1) pq rt1 t8 (by omega) hq1 hq2 hq3 hpn hwz1 hwz2 hwz3) (cwV 1 htb (g_V (fun _ h => h) m_1532 m_1529 m_1531 m_1704 m_9) rfl rfl rfl (by decide +kernel) ⟨Nat.le_of_ble_eq_true rfl, Nat.le_of_ble_eq_true rfl⟩) ⟨fun a U g mk q => by obtain ⟨q0, qP, qK⟩ := q; exact ⟨q0, qP, va_K.moved (u := U) (U := U.calling g mk a) (Vm.Alike.refl U.vm) qK⟩, va_recv hKc hPc (ci := 12) rfl (q0 := 0) rfl, fun U hU hW => ⟨rfl, by rw [hU]; exact hPc, va_K.moved hW.alike hKc⟩⟩ rfl rfl hl.1 rfl (lv_room (Nat.le_of_ble_eq_true rfl)) d_MO_compared_89 ⟨Nat.le_of_ble_eq_true rfl, Nat.le_of_ble_eq_true rfl⟩) (fun r21 hw22 => ?_)
          replace hw22 : r21 = ordI rt1 t8 := hw22
          clear hPc hKc
          refine lv_goto (tgt := 96) hx hb d_MO_compared_92 rfl ?_
          rw [if_pos h4, htx] at hS0
          rw [decide_eq_true h4, Bool.true_and, htx] at hL0 hG0
          exact hjoinO true r21 ls (Or.inr ⟨rfl, x, rfl, by rw [hw22, hS0, hL0, hG0]; rcases ord_cmp (a := rt1) (b := t8) with ⟨o1, o2, o3, o4⟩ | ⟨o1, o2, o3, o4⟩ | ⟨o1, o2, o3, o4⟩; exact Or.inl ⟨o1, decide_eq_false o4, o2, o3⟩; exact Or.inr (Or.inl ⟨o1, decide_eq_true o4, o2, o3⟩); exact Or.inr (Or.inr ⟨o1, decide_eq_false o4, o2, o3⟩)⟩) (lv_sub hl [0, 1, 2, 3] rfl)
      · have h3 : k8 = 3 := (nI_eq (by omega) (by decide)).mp h3
        have hn1 := hrow.2.2.2.2.1
        have hn1 : -2 ^ 63 ≤ num1 ∧ num1 < 2 ^ 63 := hn1
        have hS : smL x.2 (k8, z8, t8) = decide (num1 = z8) := by unfold smL; rw [decide_eq_true hk9, if_pos h3, hnu]; rfl
        have hLs : lsL x.2 (k8, z8, t8) = decide (num1 < z8) := by unfold lsL; rw [if_pos ⟨hk9.trans h3, h3⟩, hnu]
        have hGr : grL x.2 (k8, z8, t8) = decide (z8 < num1) := by unfold grL; rw [if_pos ⟨hk9.trans h3, h3⟩, hnu]
        refine lv_aload_n hx hb d_MO_compared_35 rfl (lv_at hl 1 rfl) ?_
        refine va_get (D := (dC, dI)) (ci := 12) (v := .ref a_num) (C := R_MO) (T := T_MO) (N := 41) hx hb htb in_MO hown hK hP 0 rfl rfl 9 (by decide) (htb _ m_1148) (fun _ h9 => h9) rfl d_MO_compared_36 ?_
        refine lv_iload_n hx hb d_MO_compared_39 rfl (lv_at hl 2 rfl) ?_
        refine W.eq (g2 := F0 m 40 ls [.int (nI (bsK tr + x.1)), .ref a_num]) rfl ?_
        refine va_lald hx hb hK hP 2 2 rfl rfl (vp_in_nI (by omega) (by omega)) d_MO_compared_40 ?_
        refine W.eq (congrArg (fun z99 => F0 m 41 ls (.long z99 :: [])) (by rw [nI_clamp (by omega)]; exact hrow.2.2.2.1 : (uf (nI (bsK tr + x.1)).toNatClampNeg) = lI num1)) ?_
        refine lv_aload_n hx hb d_MO_compared_41 rfl (lv_at hl 1 rfl) ?_
        refine va_get (D := (dC, dI)) (ci := 12) (v := .long (lI z8)) (C := R_MO) (T := T_MO) (N := 41) hx hb htb in_MO hown hK hP 0 rfl rfl 25 (by decide) (htb _ m_1164) (fun _ h9 => h9) rfl d_MO_compared_42 ?_
        refine W.lcmp hx hb d_MO_compared_45 ?_
        refine lv_if_ge (tgt := 53) hx hb d_MO_compared_46 rfl (fun h4 => ?_) (fun h4 => ?_)
        · have h4 : ¬ num1 < z8 := fun h => lg_ge0.mp h4 ((lI_lt hn1.1 hn1.2 hz1 hz2).mpr h)
          refine lv_aload_n hx hb d_MO_compared_53 rfl (lv_at hl 1 rfl) ?_
          refine va_get (D := (dC, dI)) (ci := 12) (v := .ref a_num) (C := R_MO) (T := T_MO) (N := 41) hx hb htb in_MO hown hK hP 0 rfl rfl 9 (by decide) (htb _ m_1148) (fun _ h9 => h9) rfl d_MO_compared_54 ?_
          refine lv_iload_n hx hb d_MO_compared_57 rfl (lv_at hl 2 rfl) ?_
          refine W.eq (g2 := F0 m 58 ls [.int (nI (bsK tr + x.1)), .ref a_num]) rfl ?_
          refine va_lald hx hb hK hP 2 2 rfl rfl (vp_in_nI (by omega) (by omega)) d_MO_compared_58 ?_
          refine W.eq (congrArg (fun z99 => F0 m 59 ls (.long z99 :: [])) (by rw [nI_clamp (by omega)]; exact hrow.2.2.2.1 : (uf (nI (bsK tr + x.1)).toNatClampNeg) = lI num1)) ?_
          refine lv_aload_n hx hb d_MO_compared_59 rfl (lv_at hl 1 rfl) ?_
          refine va_get (D := (dC, dI)) (ci := 12) (v := .long (lI z8)) (C := R_MO) (T := T_MO) (N := 41) hx hb htb in_MO hown hK hP 0 rfl rfl 25 (by decide) (htb _ m_1164) (fun _ h9 => h9) rfl d_MO_compared_60 ?_
          refine W.lcmp hx hb d_MO_compared_63 ?_
          refine lv_if_le (tgt := 71) hx hb d_MO_compared_64 rfl (fun h5 => ?_) (fun h5 => ?_)
          · have h5 : num1 = z8 := by have h9 : ¬ z8 < num1 := fun h => lg_gt0 h5 ((lI_lt hz1 hz2 hn1.1 hn1.2).mpr h); omega
            refine lv_iconst (v := 0) hx hb d_MO_compared_71 (by decide) ?_
            refine lv_goto (tgt := 96) hx hb d_MO_compared_72 rfl ?_
            exact hjoinO true 0 ls (Or.inr ⟨rfl, x, rfl, Or.inr (Or.inl ⟨rfl, by rw [hS]; exact decide_eq_true h5, by rw [hLs]; exact decide_eq_false h4, by rw [hGr]; exact decide_eq_false (by omega)⟩)⟩) (lv_sub hl [0, 1, 2, 3] rfl)
          · have h5 : z8 < num1 := by have h9 : ¬ num1 = z8 := fun h => h5 (by rw [h, lg_eq0.mpr rfl]; exact Int32.le_refl _); omega
            refine lv_iconst (v := 1) hx hb d_MO_compared_67 (by decide) ?_
            refine lv_goto (tgt := 96) hx hb d_MO_compared_68 rfl ?_
            exact hjoinO true 1 ls (Or.inr ⟨rfl, x, rfl, Or.inr (Or.inr ⟨rfl, by rw [hS]; exact decide_eq_false (by omega), by rw [hLs]; exact decide_eq_false h4, by rw [hGr]; exact decide_eq_true h5⟩)⟩) (lv_sub hl [0, 1, 2, 3] rfl)
        · have h4 : num1 < z8 := (lI_lt hn1.1 hn1.2 hz1 hz2).mp (Classical.byContradiction (fun h => h4 (lg_ge0.mpr h)))
          refine lv_iconst (v := (-1)) hx hb d_MO_compared_49 (by decide) ?_
          refine lv_goto (tgt := 96) hx hb d_MO_compared_50 rfl ?_
          exact hjoinO true (-1) ls (Or.inr ⟨rfl, x, rfl, Or.inl ⟨rfl, by rw [hS]; exact decide_eq_false (by omega), by rw [hLs]; exact decide_eq_true h4, by rw [hGr]; exact decide_eq_false (by omega)⟩⟩) (lv_sub hl [0, 1, 2, 3] rfl)
