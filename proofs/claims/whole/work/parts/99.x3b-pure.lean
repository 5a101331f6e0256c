theorem nmW_len : ∀ R : List Nat, (nmW R).2.length ≤ R.length
  | [] => Nat.le_refl _
  | c :: R => by
    rw [nmW]
    split
    · have := nmW_len R; simp only [List.length_cons]; omega
    · exact Nat.le_refl _
theorem nmP_no {R : List Nat} (h : isLet (hd0 R) = false) : nmP R = none := by unfold nmP; rw [if_neg (by rw [h]; decide)]
theorem nmP_yes {R : List Nat} (h : isLet (hd0 R) = true) : nmP R = some (nmW R) := by unfold nmP; rw [if_pos h]
theorem cns_nm {L : List Nat} {a b : Nat} {tx : List Nat} (h : nmW (L.drop a) = (tx ++ (nmW (L.drop b)).1, (nmW (L.drop b)).2)) (ha : a ≤ b) (hb : b ≤ L.length) : b - a ≤ cns (L.drop a) (nmP (L.drop a)) := by
  unfold nmP
  split
  · rw [h]
    show b - a ≤ (L.drop a).length - (nmW (L.drop b)).2.length
    have := nmW_len (L.drop b)
    rw [List.length_drop] at this ⊢
    omega
  · show b - a ≤ (L.drop a).length
    rw [List.length_drop]; omega
theorem nm_in {L : List Nat} {b : Nat} (h : isLet (L.getD b 0) = true) : isLD (L.getD b 0) = true := by unfold isLD; rw [h]; rfl
theorem nm_dg {L : List Nat} {b : Nat} (h : isDig (L.getD b 0) = true) : isLD (L.getD b 0) = true := by unfold isLD; rw [h, Bool.or_true]
theorem nm_out {k : Nat} (h1 : isLet k = false) (h2 : isDig k = false) : isLD k = false := by unfold isLD; rw [h1, h2]; rfl
theorem ld_0 {L : List Nat} {b : Nat} (h : L.length ≤ b) : isLD (L.getD b 0) = false := by rw [getD_end h]; decide
theorem let_0 {L : List Nat} {b : Nat} (h : L.length ≤ b) : isLet (L.getD b 0) = false := by rw [getD_end h]; decide
theorem nmP_ne {R : List Nat} {t R' : List Nat} (h : nmP R = some (t, R')) : 0 < t.length ∧ True := by
  unfold nmP at h
  split at h
  · next hl =>
    cases R with
    | nil => exact absurd hl (by decide)
    | cons c R =>
      have hl : isLet c = true := hl
      rw [nmW, if_pos (show isLD c = true by unfold isLD; rw [hl]; rfl)] at h
      have := congrArg (fun q => q.1.length) (Option.some.inj h)
      simp only [List.length_cons] at this
      exact ⟨by omega, trivial⟩
  · cases h
/-- an index as the class keeps it: 1000 where it is left out -/
def ixI (o : Option Int) : Int32 := iI (o.getD 1000)
theorem dg_lt : ∀ (n v : Nat) (R : List Nat) (e : Nat), v < 10 ^ e → (∀ c ∈ R, c < 128) → (dg n v R).1 < 10 ^ (e + n)
  | 0, v, R, e, h, _ => h
  | n + 1, v, [], e, h, _ => Nat.lt_of_lt_of_le h (Nat.pow_le_pow_right (by decide) (by omega))
  | n + 1, v, c :: R, e, h, hc => by
    rw [dg]
    split
    · next hd =>
      have hd := isDig_iff.mp hd
      rw [show e + (n + 1) = (e + 1) + n by omega]
      exact dg_lt n _ R (e + 1) (by rw [Nat.pow_succ]; omega) (fun c hc2 => hc c (List.mem_cons_of_mem _ hc2))
    · exact Nat.lt_of_lt_of_le h (Nat.pow_le_pow_right (by decide) (by omega))
/-! the parts of a path as the class keeps them, frozen -/
def SEc (a : Nat) (k : Int32) (nm : Nat) (x1 x2 x3 : Int32) (te : Value) : Nat × va_E := (a, Sum.inr (10, [Value.int k, Value.ref nm, Value.int x1, Value.int x2, Value.int x3, te]))
def acx0 : Acx := (true, [], 0)
/-- an access: a Selector with a name or an index -/
def ACz (cB : ClassId) (aK : Nat → Nat) (tl : va_W) (q : Acx) (o : Nat) : Prop :=
  (q.1 = true ∧ ∃ nm, SEc o 1 nm 0 0 0 Value.null ∈ tl ∧ TX cB aK tl nm q.2.1) ∨ (q.1 = false ∧ SEc o 2 (aK 0) (iI q.2.2) 0 0 Value.null ∈ tl ∧ -999 ≤ q.2.2 ∧ q.2.2 ≤ 999)
def ACs (cB cO : ClassId) (em : Nat) (aK : Nat → Nat) (tl : va_W) (as : List Acx) (al : Nat) : Prop := ∃ xs, ALz cO em tl al xs ∧ as.length = xs.length ∧ ∀ i, i < xs.length → ACz cB aK tl (as.getD i acx0) (xs.getD i 0)
/-- a Test -/
def TSz (cB cO : ClassId) (em : Nat) (aK : Nat → Nat) (tl : va_W) (t : Tst) (o : Nat) : Prop := ∃ al, ACs cB cO em aK tl t.1 al ∧
  ((t.2.1 = 0 ∧ (o, Sum.inr (11, [Value.ref al, Value.int 0, Value.null])) ∈ tl) ∨
   (¬ t.2.1 = 0 ∧ t.2.1 ≤ 6 ∧ t.2.2.1 ≤ 4 ∧ ∃ lv, (o, Sum.inr (11, [Value.ref al, Value.int (nI t.2.1), Value.ref lv])) ∈ tl ∧ VT cB cO em aK 1 tl lv [] [(t.2.2.1, 0, t.2.2.2.1, t.2.2.2.2, [])]))
def SLz (cB cO : ClassId) (em : Nat) (aK : Nat → Nat) (tl : va_W) (s : Sel) (o : Nat) : Prop :=
  (s = slA ∧ SEc o 0 (aK 0) 0 0 0 Value.null ∈ tl) ∨ (∃ n8, s = slN n8 ∧ ACz cB aK tl (true, n8, 0) o) ∨ (∃ v, s = (2, [], (some v, none, none), tst0) ∧ ACz cB aK tl (false, [], v) o) ∨
  (∃ o1 o2 o3 : Option Int, s = (3, [], (o1, o2, o3), tst0) ∧ SEc o 3 (aK 0) (ixI o1) (ixI o2) (ixI o3) Value.null ∈ tl ∧ (∀ v, o1 = some v → -999 ≤ v ∧ v ≤ 999) ∧ (∀ v, o2 = some v → -999 ≤ v ∧ v ≤ 999) ∧ (∀ v, o3 = some v → -999 ≤ v ∧ v ≤ 999)) ∨
  (∃ t te, s = (4, [], (none, none, none), t) ∧ SEc o 4 (aK 0) 0 0 0 (Value.ref te) ∈ tl ∧ TSz cB cO em aK tl t te)
def SLs (cB cO : ClassId) (em : Nat) (aK : Nat → Nat) (tl : va_W) (ss : List Sel) (xs : List Nat) : Prop := ss.length = xs.length ∧ ∀ i, i < xs.length → SLz cB cO em aK tl (ss.getD i slA) (xs.getD i 0)
def sgm0 : Sgm := (false, [])
def SGz (cB cO : ClassId) (em : Nat) (aK : Nat → Nat) (tl : va_W) (sg : Sgm) (o : Nat) : Prop := ∃ al xs, (o, Sum.inr (9, [Value.int (bI sg.1), Value.ref al])) ∈ tl ∧ ALz cO em tl al xs ∧ SLs cB cO em aK tl sg.2 xs
theorem ACz.mono {cB : ClassId} {aK : Nat → Nat} {tl tl2 : va_W} {q : Acx} {o : Nat} (h : ACz cB aK tl q o) (hs : ∀ q ∈ tl, q ∈ tl2) : ACz cB aK tl2 q o := by
  rcases h with ⟨e, nm, h1, h2⟩ | ⟨e, h1, h2⟩
  · exact Or.inl ⟨e, nm, hs _ h1, h2.mono hs⟩
  · exact Or.inr ⟨e, hs _ h1, h2⟩
theorem ACz.vin {cB : ClassId} {aK : Nat → Nat} {tl : va_W} {q : Acx} {o : Nat} (h : ACz cB aK tl q o) : Vin 10 tl o := by
  rcases h with ⟨e, nm, h1, h2⟩ | ⟨e, h1, h2⟩
  · exact ⟨_, h1⟩
  · exact ⟨_, h1⟩
theorem ACs.mono {cB cO : ClassId} {em : Nat} {aK : Nat → Nat} {tl tl2 : va_W} {as : List Acx} {al : Nat} (h : ACs cB cO em aK tl as al) (hs : ∀ q ∈ tl, q ∈ tl2) : ACs cB cO em aK tl2 as al := by
  obtain ⟨xs, h1, h2, h3⟩ := h
  exact ⟨xs, h1.mono hs, h2, fun i hi => (h3 i hi).mono hs⟩
theorem TSz.mono {cB cO : ClassId} {em : Nat} {aK : Nat → Nat} {tl tl2 : va_W} {t : Tst} {o : Nat} (h : TSz cB cO em aK tl t o) (hs : ∀ q ∈ tl, q ∈ tl2) : TSz cB cO em aK tl2 t o := by
  obtain ⟨al, h1, ⟨h2, h3⟩ | ⟨h2, h3, h6, lv, h4, h5⟩⟩ := h
  · exact ⟨al, h1.mono hs, Or.inl ⟨h2, hs _ h3⟩⟩
  · exact ⟨al, h1.mono hs, Or.inr ⟨h2, h3, h6, lv, hs _ h4, h5.mono hs⟩⟩
theorem SLz.mono {cB cO : ClassId} {em : Nat} {aK : Nat → Nat} {tl tl2 : va_W} {s : Sel} {o : Nat} (h : SLz cB cO em aK tl s o) (hs : ∀ q ∈ tl, q ∈ tl2) : SLz cB cO em aK tl2 s o := by
  rcases h with ⟨e, h1⟩ | ⟨n8, e, h1⟩ | ⟨v, e, h1⟩ | ⟨o1, o2, o3, e, h1, h2⟩ | ⟨t, te, e, h1, h2⟩
  · exact Or.inl ⟨e, hs _ h1⟩
  · exact Or.inr (Or.inl ⟨n8, e, h1.mono hs⟩)
  · exact Or.inr (Or.inr (Or.inl ⟨v, e, h1.mono hs⟩))
  · exact Or.inr (Or.inr (Or.inr (Or.inl ⟨o1, o2, o3, e, hs _ h1, h2⟩)))
  · exact Or.inr (Or.inr (Or.inr (Or.inr ⟨t, te, e, hs _ h1, h2.mono hs⟩)))
theorem SLz.vin {cB cO : ClassId} {em : Nat} {aK : Nat → Nat} {tl : va_W} {s : Sel} {o : Nat} (h : SLz cB cO em aK tl s o) : Vin 10 tl o := by
  rcases h with ⟨e, h1⟩ | ⟨n8, e, h1⟩ | ⟨v, e, h1⟩ | ⟨o1, o2, o3, e, h1, h2⟩ | ⟨t, te, e, h1, h2⟩
  · exact ⟨_, h1⟩
  · exact h1.vin
  · exact h1.vin
  · exact ⟨_, h1⟩
  · exact ⟨_, h1⟩
theorem SLs.mono {cB cO : ClassId} {em : Nat} {aK : Nat → Nat} {tl tl2 : va_W} {ss : List Sel} {xs : List Nat} (h : SLs cB cO em aK tl ss xs) (hs : ∀ q ∈ tl, q ∈ tl2) : SLs cB cO em aK tl2 ss xs := ⟨h.1, fun i hi => (h.2 i hi).mono hs⟩
theorem getD_app {α : Type} {xs : List α} {y z : α} {i : Nat} (h : i < xs.length) : (xs ++ [y]).getD i z = xs.getD i z := by
  simp only [List.getD_eq_getElem?_getD]
  rw [List.getElem?_append_left h]
theorem getD_end1 {α : Type} {xs : List α} {y z : α} {i : Nat} (h : i = xs.length) : (xs ++ [y]).getD i z = y := by
  simp only [List.getD_eq_getElem?_getD]
  rw [List.getElem?_append_right (by omega), h, Nat.sub_self]; rfl
theorem SLs.app {cB cO : ClassId} {em : Nat} {aK : Nat → Nat} {tl : va_W} {ss : List Sel} {xs : List Nat} {s : Sel} {o : Nat} (h : SLs cB cO em aK tl ss xs) (h1 : SLz cB cO em aK tl s o) : SLs cB cO em aK tl (ss ++ [s]) (xs ++ [o]) := by
  refine ⟨by simp [h.1], fun i hi => ?_⟩
  simp only [List.length_append, List.length_singleton] at hi
  by_cases hi2 : i < xs.length
  · rw [getD_app hi2, getD_app (by rw [h.1]; exact hi2)]; exact h.2 i hi2
  · have e1 : (xs ++ [o]).getD i 0 = o := getD_end1 (by omega)
    have e2 : (ss ++ [s]).getD i slA = s := getD_end1 (by rw [h.1]; omega)
    rw [e1, e2]; exact h1
theorem SLs.nil {cB cO : ClassId} {em : Nat} {aK : Nat → Nat} {tl : va_W} : SLs cB cO em aK tl [] [] := ⟨rfl, fun i hi => absurd hi (Nat.not_lt_zero _)⟩
theorem AC_app {cB : ClassId} {aK : Nat → Nat} {tl : va_W} {as : List Acx} {xs : List Nat} {q : Acx} {o : Nat} (hl : as.length = xs.length) (h : ∀ i, i < xs.length → ACz cB aK tl (as.getD i acx0) (xs.getD i 0)) (h1 : ACz cB aK tl q o) : ∀ i, i < (xs ++ [o]).length → ACz cB aK tl ((as ++ [q]).getD i acx0) ((xs ++ [o]).getD i 0) := by
  intro i hi
  simp only [List.length_append, List.length_singleton] at hi
  by_cases hi2 : i < xs.length
  · rw [getD_app hi2, getD_app (by rw [hl]; exact hi2)]; exact h i hi2
  · have e1 : (xs ++ [o]).getD i 0 = o := getD_end1 (by omega)
    have e2 : (as ++ [q]).getD i acx0 = q := getD_end1 (by rw [hl]; omega)
    rw [e1, e2]; exact h1
theorem SGz.mono {cB cO : ClassId} {em : Nat} {aK : Nat → Nat} {tl tl2 : va_W} {sg : Sgm} {o : Nat} (h : SGz cB cO em aK tl sg o) (hs : ∀ q ∈ tl, q ∈ tl2) : SGz cB cO em aK tl2 sg o := by
  obtain ⟨al, xs, h1, h2, h3⟩ := h
  exact ⟨al, xs, hs _ h1, h2.mono hs, h3.mono hs⟩
theorem SGz.vin {cB cO : ClassId} {em : Nat} {aK : Nat → Nat} {tl : va_W} {sg : Sgm} {o : Nat} (h : SGz cB cO em aK tl sg o) : Vin 9 tl o := by
  obtain ⟨al, xs, h1, h2, h3⟩ := h
  exact ⟨_, h1⟩
theorem iI_ne1 {v : Int} {k : Nat} (h1 : -999 ≤ v) (h2 : v ≤ 999) (hk : 1000 ≤ k) (hk2 : k < 2000) : ¬ iI v = nI k := by
  intro h
  have h9 := congrArg Int32.toInt h
  rw [iI_toInt (by omega) (by omega), ← iI_nat, iI_toInt (by omega) (by omega)] at h9
  omega
theorem ixI_ne {o : Option Int} (h : ∀ v, o = some v → -999 ≤ v ∧ v ≤ 999) : ¬ ixI o = 1001 := by
  cases o with
  | none => decide
  | some v => exact iI_ne1 (k := 1001) (h v rfl).1 (h v rfl).2 (by decide) (by decide)
theorem ixI_none : ixI none = 1000 := rfl
theorem ixI_some {v : Int} (h1 : -999 ≤ v) (h2 : v ≤ 999) : ¬ ixI (some v) = 1000 := iI_ne1 (k := 1000) h1 h2 (by decide) (by decide)
theorem Oci9 : Oci 9 := ⟨"PatchStore$Segment", T_SG, 2, rfl, List.mem_of_getElem? (i := 29) rfl⟩
theorem Oci10 : Oci 10 := ⟨"PatchStore$Selector", T_SE, 6, rfl, List.mem_of_getElem? (i := 30) rfl⟩
theorem pmL {α : Type} (n l z f : List α) : (l ++ ((n ++ z) ++ f)).Perm (n ++ (l ++ (z ++ f))) := by
  rw [← List.append_assoc, ← List.append_assoc, ← List.append_assoc, ← List.append_assoc]
  refine List.Perm.append_right _ ?_
  rw [List.append_assoc, List.append_assoc]
  exact (List.perm_append_comm (l₁ := l) (l₂ := n ++ z)).trans (by rw [List.append_assoc]; exact List.Perm.append_left _ List.perm_append_comm)
theorem nmP_len {R : List Nat} {q : List Nat × List Nat} (h : nmP R = some q) : q.2.length ≤ R.length := by
  unfold nmP at h
  split at h
  · rw [← Option.some.inj h]; exact nmW_len R
  · cases h
theorem nmP_lt {R t R' : List Nat} (h : nmP R = some (t, R')) : R'.length < R.length := by
  unfold nmP at h
  split at h
  · next hl =>
    cases R with
    | nil => exact absurd hl (by decide)
    | cons c R =>
      have hl : isLet c = true := hl
      rw [nmW, if_pos (show isLD c = true by unfold isLD; rw [hl]; rfl)] at h
      have h2 := congrArg (fun q => q.2.length) (Option.some.inj h)
      have h3 := nmW_len R
      simp only at h2
      simp only [List.length_cons]; omega
  · cases h
theorem pmM {α : Type} (s n l z f : List α) : (l ++ (((s ++ n) ++ z) ++ f)).Perm (s ++ (n ++ (l ++ (z ++ f)))) := by
  rw [← List.append_assoc s n (l ++ (z ++ f))]
  exact pmL (s ++ n) l z f
theorem dg_len : ∀ (n v : Nat) (R : List Nat), (dg n v R).2.length ≤ R.length
  | 0, _, R => Nat.le_refl _
  | n + 1, _, [] => Nat.le_refl _
  | n + 1, v, c :: R => by
    rw [dg]
    split
    · have := dg_len n (10 * v + (c - 48)) R; simp only [List.length_cons]; omega
    · exact Nat.le_refl _
theorem ixp_len {R : List Nat} {q : Option Int × List Nat} (h : ixp R = some q) : q.2.length ≤ R.length := by
  unfold ixp at h
  split at h
  · rw [← Option.some.inj h]; show (R.drop 1).length ≤ _; rw [List.length_drop]; omega
  · split at h
    · split at h
      · rw [← Option.some.inj h]
        have := dg_len 3 0 (R.drop 1)
        rw [List.length_drop] at this
        show (dg 3 0 (R.drop 1)).2.length ≤ _; omega
      · cases h
    · split at h
      · rw [← Option.some.inj h]; exact dg_len 3 0 R
      · rw [← Option.some.inj h]; exact Nat.le_refl _
theorem ac1_len {R : List Nat} {q : Acx × List Nat} (h : ac1 R = some q) : q.2.length ≤ R.length := by
  unfold ac1 at h
  split at h
  · obtain ⟨z, h1, h2⟩ := map_inv h
    rw [← h2]
    have := qtd_lt _ _ (Nat.le_refl _) z h1
    rw [List.length_drop] at this
    show z.2.length ≤ _; omega
  · obtain ⟨z, h1, h2⟩ := Option.bind_eq_some_iff.mp h
    obtain ⟨v, h3, h4⟩ := map_inv h2
    rw [← h4]; exact ixp_len h1
theorem acB_len {R : List Nat} {q : Acx × List Nat} (h : acB R = some q) : q.2.length ≤ R.length := by
  unfold acB at h
  obtain ⟨z, h1, h2⟩ := Option.bind_eq_some_iff.mp h
  split at h2
  · rw [← Option.some.inj h2]
    show ((skp z.2).drop 1).length ≤ _
    have a1 := ac1_len h1
    have a2 := skp_le z.2
    have a3 := skp_le R
    rw [List.length_drop]; omega
  · cases h2
theorem acP_len : ∀ (n : Nat) {R : List Nat} {q : List Acx × List Nat}, acP n R = some q → q.2.length ≤ R.length
  | 0, R, q, h => by cases h
  | n + 1, R, q, h => by
    rw [acP_succ] at h
    split at h
    · obtain ⟨z, h1, h2⟩ := Option.bind_eq_some_iff.mp h
      obtain ⟨y, h3, h4⟩ := map_inv h2
      have a1 := nmP_len h1
      have a2 := acP_len n h3
      rw [List.length_drop] at a1
      rw [← h4]; show y.2.length ≤ _; omega
    · split at h
      · obtain ⟨z, h1, h2⟩ := Option.bind_eq_some_iff.mp h
        obtain ⟨y, h3, h4⟩ := map_inv h2
        have a1 := acB_len h1
        have a2 := acP_len n h3
        rw [List.length_drop] at a1
        rw [← h4]; show y.2.length ≤ _; omega
      · rw [← Option.some.inj h]; exact Nat.le_refl _
/-- what a part costs is less than what the whole may -/
theorem cns_bind {α β : Type} {q : Option (β × List Nat)} {k : β × List Nat → Option (α × List Nat)} {R0 R1 : List Nat} (hl : R1.length ≤ R0.length) (hq : ∀ x, q = some x → x.2.length ≤ R1.length) (hk : ∀ x y, k x = some y → y.2.length ≤ x.2.length) : cns R1 q + (R0.length - R1.length) ≤ cns R0 (q.bind k) := by
  cases q with
  | none => show R1.length + _ ≤ R0.length; omega
  | some x =>
    have h1 := hq x rfl
    show R1.length - x.2.length + _ ≤ cns R0 (k x)
    cases hy : k x with
    | none => show _ ≤ R0.length; omega
    | some y =>
      have h2 := hk x y hy
      show _ ≤ R0.length - y.2.length; omega
theorem cns_max {α : Type} {R : List Nat} {o : Option (α × List Nat)} : cns R o ≤ R.length := by
  cases o with
  | none => exact Nat.le_refl _
  | some q => exact Nat.sub_le _ _
/-- what was read so far -/
theorem cns_sofar {α : Type} {o : Option (α × List Nat)} {R0 R1 : List Nat} (hl : R1.length ≤ R0.length) (h : ∀ y, o = some y → y.2.length ≤ R1.length) : R0.length - R1.length ≤ cns R0 o := by
  cases o with
  | none => show _ ≤ R0.length; omega
  | some y => have := h y rfl; show _ ≤ R0.length - y.2.length; omega
def acF (as : List Acx) : List Acx × List Nat → Option (List Acx × List Nat) := fun q => some (as ++ q.1, q.2)
theorem acF_nil {o : Option (List Acx × List Nat)} : o = o.bind (acF []) := by cases o <;> rfl
theorem acF_snoc {n : Nat} {as : List Acx} {q : Acx} {R : List Nat} : ((acP n R).map (fun a => (q :: a.1, a.2))).bind (acF as) = (acP n R).bind (acF (as ++ [q])) := by
  cases acP n R with
  | none => rfl
  | some z => simp [acF]
theorem acF_len {n : Nat} {as : List Acx} {R : List Nat} {y : List Acx × List Nat} (h : (acP n R).bind (acF as) = some y) : y.2.length ≤ R.length := by
  obtain ⟨z, h1, h2⟩ := Option.bind_eq_some_iff.mp h
  rw [← Option.some.inj h2]; show z.2.length ≤ _; exact acP_len n h1
theorem acN {n : Nat} {as : List Acx} {R : List Nat} (h : hd0 R = 46) : (acP (n + 1) R).bind (acF as) = (nmP (R.drop 1)).bind (fun q => (acP n q.2).bind (acF (as ++ [(true, q.1, 0)]))) := by
  rw [acP_succ, if_pos h, Option.bind_assoc]
  congr 1
  funext q
  exact acF_snoc
theorem acG {n : Nat} {as : List Acx} {R : List Nat} (h : hd0 R = 91) : (acP (n + 1) R).bind (acF as) = (ac1 (skp (R.drop 1))).bind (fun q => if hd0 (skp q.2) = 93 then (acP n ((skp q.2).drop 1)).bind (acF (as ++ [q.1])) else none) := by
  rw [acP_succ, if_neg (by omega), if_pos h, Option.bind_assoc]
  unfold acB
  rw [Option.bind_assoc]
  congr 1
  funext q
  by_cases h9 : hd0 (skp q.2) = 93
  · rw [if_pos h9, if_pos h9]; exact acF_snoc
  · rw [if_neg h9, if_neg h9]; rfl
theorem acE {n : Nat} {as : List Acx} {R : List Nat} (h1 : ¬ hd0 R = 46) (h2 : ¬ hd0 R = 91) : (acP (n + 1) R).bind (acF as) = some (as, R) := by
  rw [acP_succ, if_neg h1, if_neg h2]
  simp [acF]
theorem acK_len {n : Nat} {as : List Acx} (x : Acx × List Nat) (y : List Acx × List Nat) (h : (if hd0 (skp x.2) = 93 then (acP n ((skp x.2).drop 1)).bind (acF (as ++ [x.1])) else none) = some y) : y.2.length ≤ x.2.length := by
  split at h
  · have a1 := acF_len h
    have a2 := skp_le x.2
    rw [List.length_drop] at a1; omega
  · cases h
theorem ac1_q {R : List Nat} {k : Nat} (h : hd0 R = k) (hk : k = 34 ∨ k = 39) : ac1 R = (qtd k (R.drop 1)).bind (fun q => some ((true, q.1, 0), q.2)) := by
  unfold ac1
  rw [h, if_pos hk]
  cases qtd k (R.drop 1) <;> rfl
theorem ac1_i {R : List Nat} (h1 : ¬ hd0 R = 34) (h2 : ¬ hd0 R = 39) : ac1 R = (ixp R).bind (fun q => q.1.map (fun v => ((false, [], v), q.2))) := by
  unfold ac1
  rw [if_neg (by omega)]
theorem scl_s {R : List Nat} {k : Nat} (h : hd0 R = k) (hk : k = 34 ∨ k = 39) : scl true R = (qtd k (R.drop 1)).bind (fun q => some ((4, 0, q.1), q.2)) := by
  unfold scl
  rw [h, if_neg (by rcases hk with rfl | rfl <;> decide), if_neg (by omega), if_neg (by omega), if_neg (by omega), if_pos (hk.imp id (fun h => ⟨rfl, h⟩))]
  cases qtd k (R.drop 1) <;> rfl
theorem scl_n {R : List Nat} (h : (decide (hd0 R = 45) || isDig (hd0 R)) = true) : scl true R = (num R).bind (fun q => some ((3, q.1, []), q.2)) := by
  unfold scl
  rw [if_pos h]
  cases num R <;> rfl
theorem scl_w {R : List Nat} (h : ¬ (decide (hd0 R = 45) || isDig (hd0 R)) = true) (h1 : ¬ hd0 R = 34) (h2 : ¬ hd0 R = 39) : scl true R = (wrd R).bind (fun q => some ((wrdK R, 0, []), q)) := by
  unfold scl
  rw [if_neg h]
  have hh : R.getD 0 0 = hd0 R := rfl
  rw [wrd]
  cases R with
  | nil =>
    have e : wrdK [] = 2 := by decide
    rw [e, LTx4]
    rfl
  | cons c R =>
    have hc : hd0 (c :: R) = c := rfl
    have hd : (c :: R).drop 1 = R := rfl
    rw [hc, hd]
    rw [hc] at h1 h2
    by_cases g1 : c = 110
    · have e : wrdK (c :: R) = 0 := if_pos g1
      have e2 : pfx (LTx.getD (0 + 2) []) (c :: R) = pfx [117, 108, 108] R := by rw [LTx2, pfx, if_pos g1]
      rw [e, e2, if_pos g1]
      cases pfx [117, 108, 108] R <;> rfl
    · by_cases g2 : c = 116
      · have e : wrdK (c :: R) = 1 := by rw [wrdK, hh, hc, if_neg g1, if_pos g2]
        have e2 : pfx (LTx.getD (1 + 2) []) (c :: R) = pfx [114, 117, 101] R := by rw [LTx3, pfx, if_pos g2]
        rw [e, e2, if_neg g1, if_pos g2]
        cases pfx [114, 117, 101] R <;> rfl
      · have e : wrdK (c :: R) = 2 := by rw [wrdK, hh, hc, if_neg g1, if_neg g2]
        rw [e, if_neg g1, if_neg g2]
        by_cases g3 : c = 102
        · have e2 : pfx (LTx.getD (2 + 2) []) (c :: R) = pfx [97, 108, 115, 101] R := by rw [LTx4, pfx, if_pos g3]
          rw [e2, if_pos g3]
          cases pfx [97, 108, 115, 101] R <;> rfl
        · have e2 : pfx (LTx.getD (2 + 2) []) (c :: R) = none := by rw [LTx4, pfx, if_neg g3]
          rw [e2, if_neg g3, if_neg (by omega)]; rfl
theorem sgP_len {R : List Nat} {q : Nat × List Nat} (h : sgP R = some q) : q.2.length ≤ R.length := by
  unfold sgP at h
  repeat' split at h
  all_goals first | (cases h; done) | (rw [← Option.some.inj h]; simp only [List.length_drop]; omega)
theorem wrdK_le {R : List Nat} : wrdK R ≤ 4 := by unfold wrdK; split; omega; split <;> omega
theorem wrd_len {R q : List Nat} (h : wrd R = some q) : q.length ≤ R.length := by
  have := pfx_len _ _ _ h
  omega
theorem num_len {R : List Nat} {q : Int × List Nat} (h : num R = some q) : q.2.length ≤ R.length := Nat.le_of_lt (num_lt R q h)
theorem nI_nm1 {n : Nat} (h : n ≤ 1000) : ¬ nI n = -1 := fun h9 => by
  have h8 := congrArg Int32.toInt h9
  rw [← iI_nat, iI_toInt (by omega) (by omega)] at h8
  have h7 : ((n : Nat) : Int) = -1 := h8
  omega
theorem ts_0 {as : List Acx} {R R1 : List Nat} (h : sgP (skp R) = some (0, R1)) : tsB as R = some ((as, 0, (0, 0, [])), R1) := by unfold tsB; rw [h, Option.bind_some, if_pos rfl]
theorem ts_n {as : List Acx} {R : List Nat} (h : sgP (skp R) = none) : tsB as R = none := by unfold tsB; rw [h]; rfl
theorem ts_s {as : List Acx} {R R1 : List Nat} {s8 : Nat} (h : sgP (skp R) = some (s8, R1)) (h0 : ¬ s8 = 0) : tsB as R = (scl true (skp R1)).bind (fun z => some ((as, s8, z.1), z.2)) := by
  unfold tsB
  rw [h, Option.bind_some, if_neg h0]
  cases scl true (skp R1) <;> rfl
theorem tsB_len {as : List Acx} {R : List Nat} {q : Tst × List Nat} (h : tsB as R = some q) : q.2.length ≤ R.length := by
  unfold tsB at h
  obtain ⟨z, h1, h2⟩ := Option.bind_eq_some_iff.mp h
  have a1 := sgP_len h1
  have a2 := skp_le R
  split at h2
  · rw [← Option.some.inj h2]; show z.2.length ≤ _; omega
  · obtain ⟨y, h3, h4⟩ := map_inv h2
    obtain ⟨⟨k, z1, t⟩, R'⟩ := y
    have a3 := (scl_len h3).2.2.2.2
    have a4 := skp_le z.2
    rw [← h4]; show R'.length ≤ _; omega
theorem tsP_1 {R : List Nat} (h : hd0 R = 64) : tsP R = (acP 160 (R.drop 1)).bind (fun q => tsB q.1 q.2) := by unfold tsP; rw [if_pos h]
theorem tsP_0 {R : List Nat} (h : ¬ hd0 R = 64) : tsP R = none := by unfold tsP; rw [if_neg h]
theorem slP_t1 {R : List Nat} (h : hd0 R = 63) (h1 : hd0 (R.drop 1) = 64) : slP R = (acP 160 ((R.drop 1).drop 1)).bind (fun q => (tsB q.1 q.2).bind (fun z => some ((4, [], (none, none, none), z.1), z.2))) := by
  rw [slP_tst h, tsP_1 h1]
  cases acP 160 ((R.drop 1).drop 1) with
  | none => rfl
  | some q => show (tsB q.1 q.2).map _ = (tsB q.1 q.2).bind _; cases tsB q.1 q.2 <;> rfl
theorem slP_t0 {R : List Nat} (h : hd0 R = 63) (h1 : ¬ hd0 (R.drop 1) = 64) : slP R = none := by rw [slP_tst h, tsP_0 h1]; rfl
theorem slP_q {R : List Nat} {k : Nat} (h : hd0 R = k) (hk : k = 34 ∨ k = 39) : slP R = (qtd k (R.drop 1)).bind (fun q => some (slN q.1, q.2)) := by
  rw [slP_quo h hk]
  cases qtd k (R.drop 1) <;> rfl
theorem tsK_len (x : List Acx × List Nat) (y : Sel × List Nat) (h : (tsB x.1 x.2).bind (fun z => some (((4, [], (none, none, none), z.1) : Sel), z.2)) = some y) : y.2.length ≤ x.2.length := by
  obtain ⟨z, h1, h2⟩ := Option.bind_eq_some_iff.mp h
  rw [← Option.some.inj h2]; exact tsB_len h1
theorem nuP_len {R : List Nat} {q : Sel × List Nat} (h : nuP R = some q) : q.2.length ≤ R.length := by
  unfold nuP at h
  obtain ⟨x, h1, h2⟩ := Option.bind_eq_some_iff.mp h
  have a1 := ixp_len h1
  split at h2
  · obtain ⟨y, h3, h4⟩ := Option.bind_eq_some_iff.mp h2
    have a2 := ixp_len h3
    rw [List.length_drop] at a2
    split at h4
    · obtain ⟨z, h5, h6⟩ := map_inv h4
      have a3 := ixp_len h5
      rw [List.length_drop] at a3
      rw [← h6]; show z.2.length ≤ _; omega
    · rw [← Option.some.inj h4]; show y.2.length ≤ _; omega
  · obtain ⟨z, h5, h6⟩ := map_inv h2
    rw [← h6]; exact a1
theorem slP_len {R : List Nat} {q : Sel × List Nat} (h : slP R = some q) : q.2.length ≤ R.length := by
  unfold slP at h
  split at h
  · rw [← Option.some.inj h]; show (R.drop 1).length ≤ _; rw [List.length_drop]; omega
  · split at h
    · obtain ⟨x, h1, h2⟩ := map_inv h
      rw [← h2]
      unfold tsP at h1
      split at h1
      · obtain ⟨z, h3, h4⟩ := Option.bind_eq_some_iff.mp h1
        have a1 := acP_len _ h3
        have a2 := tsB_len h4
        rw [List.length_drop, List.length_drop] at a1
        show x.2.length ≤ _; omega
      · cases h1
    · split at h
      · obtain ⟨x, h1, h2⟩ := map_inv h
        rw [← h2]
        have a1 := qtd_lt _ _ (Nat.le_refl _) x h1
        rw [List.length_drop] at a1
        show x.2.length ≤ _; omega
      · exact nuP_len h
def slF (dj : Bool) (ss : List Sel) : List Sel × List Nat → Option (Sgm × List Nat) := fun q => some ((dj, ss ++ q.1), q.2)
theorem slF_0 {dj : Bool} {o : Option (List Sel × List Nat)} : o.map (fun q => ((dj, q.1), q.2)) = o.bind (slF dj []) := by cases o <;> rfl
def slK (n : Nat) (dj : Bool) (ss : List Sel) (q : Sel × List Nat) : Option (Sgm × List Nat) := if hd0 (skp q.2) = 93 then some ((dj, ss ++ [q.1]), (skp q.2).drop 1) else if hd0 (skp q.2) = 44 then (slsP n ((skp q.2).drop 1)).bind (slF dj (ss ++ [q.1])) else none
theorem slsB {n : Nat} {dj : Bool} {ss : List Sel} {R : List Nat} : (slsP (n + 1) R).bind (slF dj ss) = (slP (skp R)).bind (slK n dj ss) := by
  rw [slsP, Option.bind_assoc]
  congr 1
  funext q
  unfold slK
  by_cases h1 : hd0 (skp q.2) = 93
  · rw [if_pos h1, if_pos h1]; rfl
  · rw [if_neg h1, if_neg h1]
    by_cases h2 : hd0 (skp q.2) = 44
    · rw [if_pos h2, if_pos h2]
      cases slsP n ((skp q.2).drop 1) with
      | none => rfl
      | some z => simp [slF]
    · rw [if_neg h2, if_neg h2]; rfl
theorem slsP_len : ∀ (n : Nat) {R : List Nat} {q : List Sel × List Nat}, slsP n R = some q → q.2.length ≤ R.length
  | 0, R, q, h => by cases h
  | n + 1, R, q, h => by
    rw [slsP] at h
    obtain ⟨x, h1, h2⟩ := Option.bind_eq_some_iff.mp h
    have a1 := slP_len h1
    have a2 := skp_le R
    have a3 := skp_le x.2
    split at h2
    · rw [← Option.some.inj h2]; show ((skp x.2).drop 1).length ≤ _; rw [List.length_drop]; omega
    · split at h2
      · obtain ⟨y, h3, h4⟩ := map_inv h2
        have a4 := slsP_len n h3
        rw [List.length_drop] at a4
        rw [← h4]; show y.2.length ≤ _; omega
      · cases h2
theorem slF_len {n : Nat} {dj : Bool} {ss : List Sel} {R : List Nat} {y : Sgm × List Nat} (h : (slsP n R).bind (slF dj ss) = some y) : y.2.length ≤ R.length := by
  obtain ⟨z, h1, h2⟩ := Option.bind_eq_some_iff.mp h
  rw [← Option.some.inj h2]; show z.2.length ≤ _; exact slsP_len n h1
theorem slK_len {n : Nat} {dj : Bool} {ss : List Sel} (x : Sel × List Nat) (y : Sgm × List Nat) (h : slK n dj ss x = some y) : y.2.length ≤ x.2.length := by
  unfold slK at h
  have a3 := skp_le x.2
  split at h
  · rw [← Option.some.inj h]; show ((skp x.2).drop 1).length ≤ _; rw [List.length_drop]; omega
  · split at h
    · have := slF_len h; rw [List.length_drop] at this; omega
    · cases h
theorem snP_len {R : List Nat} {q : List Sel × List Nat} (h : snP R = some q) : q.2.length ≤ R.length := by
  unfold snP at h
  split at h
  · rw [← Option.some.inj h]; show (R.drop 1).length ≤ _; rw [List.length_drop]; omega
  · obtain ⟨x, h1, h2⟩ := map_inv h
    rw [← h2]; exact nmP_len h1
theorem chP_len {R : List Nat} {q : List Sel × List Nat} (h : chP R = some q) : q.2.length ≤ R.length := by
  unfold chP at h
  split at h
  · have := slsP_len _ h; rw [List.length_drop] at this; omega
  · exact snP_len h
theorem sgmP_len {R : List Nat} {q : Sgm × List Nat} (h : sgmP R = some q) : q.2.length ≤ R.length - 1 := by
  unfold sgmP at h
  split at h
  · split at h
    · obtain ⟨x, h1, h2⟩ := map_inv h
      have := chP_len h1; rw [List.length_drop] at this
      rw [← h2]; show x.2.length ≤ _; omega
    · obtain ⟨x, h1, h2⟩ := map_inv h
      have := snP_len h1; rw [List.length_drop] at this
      rw [← h2]; show x.2.length ≤ _; omega
  · split at h
    · obtain ⟨x, h1, h2⟩ := map_inv h
      have := slsP_len _ h1; rw [List.length_drop] at this
      rw [← h2]; show x.2.length ≤ _; omega
    · cases h
def opc (R : List Nat) : Nat := if (hd0 R = 46 ∧ hd0 (R.drop 1) = 46 ∧ hd0 (R.drop 2) = 91) ∨ hd0 R = 91 then 0 else cns R (sgmP R)
theorem opc_le (R : List Nat) : opc R ≤ cns R (sgmP R) := by unfold opc; split <;> omega
theorem sgm_bb {R : List Nat} (h : hd0 R = 91) : sgmP R = (slsP 160 (R.drop 1)).bind (slF false []) := by
  rw [sgm_b h, chP_sls h, slF_0]
theorem sgm_ddb {R : List Nat} (h1 : hd0 R = 46) (h2 : hd0 (R.drop 1) = 46) (h3 : hd0 (R.drop 2) = 91) : sgmP R = (slsP 160 ((R.drop 2).drop 1)).bind (slF true []) := by
  rw [sgm_dd h1 h2, chP_sls h3, slF_0]
theorem sgm_star {R R1 : List Nat} {dj : Bool} (h : sgmP R = (chP R1).map (fun q => ((dj, q.1), q.2))) (h1 : hd0 R1 = 42) : sgmP R = some ((dj, [slA]), R1.drop 1) := by rw [h, chP_all h1]; rfl
theorem sgm_name {R R1 : List Nat} {dj : Bool} (h : sgmP R = (chP R1).map (fun q => ((dj, q.1), q.2))) (h1 : ¬ hd0 R1 = 91) (h2 : ¬ hd0 R1 = 42) : sgmP R = (nmP R1).bind (fun q => some ((dj, [slN q.1]), q.2)) := by
  rw [h, chP_nm h1 h2]
  cases nmP R1 <;> rfl
theorem nmP_91 {R : List Nat} (h : hd0 R = 91) : nmP R = none := nmP_no (by rw [h]; decide)
theorem sgm_name1 {R : List Nat} (h0 : hd0 R = 46) (h3 : ¬ hd0 (R.drop 1) = 46) (h2 : ¬ hd0 (R.drop 1) = 42) : sgmP R = (nmP (R.drop 1)).bind (fun q => some ((false, [slN q.1]), q.2)) := by
  by_cases h91 : hd0 (R.drop 1) = 91
  · rw [sgm_db h0 h91, nmP_91 h91]; rfl
  · exact sgm_name (sgm_d h0 h3 h91) h91 h2
theorem sgm_star1 {R : List Nat} (h0 : hd0 R = 46) (h2 : hd0 (R.drop 1) = 42) : sgmP R = some ((false, [slA]), (R.drop 1).drop 1) := sgm_star (sgm_d h0 (by omega) (by omega)) h2
theorem slsP_lt {n : Nat} {R : List Nat} {q : List Sel × List Nat} (h : slsP n R = some q) : q.2.length < R.length := by
  cases n with
  | zero => cases h
  | succ n =>
    rw [slsP] at h
    obtain ⟨x, h1, h2⟩ := Option.bind_eq_some_iff.mp h
    have a1 := slP_len h1
    have a2 := skp_le R
    have a3 := skp_le x.2
    have a0 : ∀ k, hd0 (skp x.2) = k → 0 < k → 0 < (skp x.2).length := fun k hk h0 => by
      cases he : skp x.2 with
      | nil => rw [he] at hk; have : (0 : Nat) = k := hk; omega
      | cons c r => simp only [List.length_cons]; omega
    split at h2
    · next h9 => have := a0 93 h9 (by decide); rw [← Option.some.inj h2]; show ((skp x.2).drop 1).length < _; rw [List.length_drop]; omega
    · split at h2
      · next h9 =>
        have := a0 44 h9 (by decide)
        obtain ⟨y, h3, h4⟩ := map_inv h2
        have a4 := slsP_len n h3
        rw [List.length_drop] at a4
        rw [← h4]; show y.2.length < _; omega
      · cases h2
theorem sgmP_lt {R : List Nat} {q : Sgm × List Nat} (h : sgmP R = some q) (hR : 2 ≤ R.length) : q.2.length + 2 ≤ R.length := by
  unfold sgmP at h
  split at h
  · split at h
    · obtain ⟨x, h1, h2⟩ := map_inv h
      have := chP_len h1; rw [List.length_drop] at this
      rw [← h2]; show x.2.length + 2 ≤ _; omega
    · obtain ⟨x, h1, h2⟩ := map_inv h
      unfold snP at h1
      split at h1
      · rw [← h2, ← Option.some.inj h1]; show ((R.drop 1).drop 1).length + 2 ≤ _; rw [List.length_drop, List.length_drop]; omega
      · obtain ⟨⟨t, R'⟩, h3, h4⟩ := map_inv h1
        have := nmP_lt h3; rw [List.length_drop] at this
        rw [← h2, ← h4]; show R'.length + 2 ≤ _; omega
  · split at h
    · obtain ⟨x, h1, h2⟩ := map_inv h
      have := slsP_lt h1; rw [List.length_drop] at this
      rw [← h2]; show x.2.length + 2 ≤ _; omega
    · cases h
def sgF (dn : List Sgm) : List Sgm → Option (List Sgm) := fun z => some (dn ++ z)
theorem sg2 {R : List Nat} {q : Sgm × List Nat} (h : sgmP R = some q) : 2 ≤ R.length := by
  unfold sgmP at h
  rcases Nat.lt_or_ge R.length 2 with h9 | h9
  · exfalso
    have e0 : R.drop 1 = [] ∨ R = [] := by
      cases R with
      | nil => exact Or.inr rfl
      | cons c R => cases R with
        | nil => exact Or.inl rfl
        | cons d R => simp only [List.length_cons] at h9; omega
    have e1 : R.drop 1 = [] := e0.elim id (fun h => by rw [h]; rfl)
    have e2 : R.drop 2 = [] := by rw [← List.drop_drop (i := 1) (j := 1), e1]; rfl
    rw [e1] at h
    split at h
    · split at h
      · next h8 => exact absurd h8 (by decide)
      · obtain ⟨x, h1, h2⟩ := map_inv h
        exact no_some (show snP [] = none by decide) h1
    · split at h
      · obtain ⟨x, h1, h2⟩ := map_inv h
        exact no_some (show slsP 160 [] = none by rw [slsP]; rfl) h1
      · cases h
  · exact h9
theorem SG_app {cB cO : ClassId} {em : Nat} {aK : Nat → Nat} {tl : va_W} {sg : List Sgm} {xs : List Nat} {q : Sgm} {o : Nat} (hl : sg.length = xs.length) (h : ∀ i, i < xs.length → SGz cB cO em aK tl (sg.getD i sgm0) (xs.getD i 0)) (h1 : SGz cB cO em aK tl q o) : ∀ i, i < (xs ++ [o]).length → SGz cB cO em aK tl ((sg ++ [q]).getD i sgm0) ((xs ++ [o]).getD i 0) := by
  intro i hi
  simp only [List.length_append, List.length_singleton] at hi
  by_cases hi2 : i < xs.length
  · rw [getD_app hi2, getD_app (by rw [hl]; exact hi2)]; exact h i hi2
  · have e1 : (xs ++ [o]).getD i 0 = o := getD_end1 (by omega)
    have e2 : (sg ++ [q]).getD i sgm0 = q := getD_end1 (by rw [hl]; omega)
    rw [e1, e2]; exact h1
theorem iI_min {x y : Int} (h1 : -5000 ≤ x) (h2 : x ≤ 5000) (h3 : -5000 ≤ y) (h4 : y ≤ 5000) : (iI y < iI x ↔ y < x) := iI_ltI (by omega) (by omega) (by omega) (by omega)
theorem ixI_1000 {o : Option Int} (h : ∀ v, o = some v → -999 ≤ v ∧ v ≤ 999) (h1 : ixI o = 1000) : o = none := by
  cases o with
  | none => rfl
  | some v => exact absurd h1 (ixI_some (h v rfl).1 (h v rfl).2)
theorem ixI_no {o : Option Int} (h1 : ¬ ixI o = 1000) : ∃ v, o = some v := by
  cases o with
  | none => exact absurd rfl h1
  | some v => exact ⟨v, rfl⟩
/-- what an access leads to, by rows -/
def acR (q : Acx) (rows : List Row) : Option Nat := if q.1 = true then mpl rows q.2.1 else elx rows q.2.2
theorem acR_acc {q : Acx} {x : Plc} : acc1 q x = (acR q x.2).map (kidL x) := rfl
theorem acR_lt {q : Acx} {rows : List Row} {t : Nat} (h : acR q rows = some t) : t < (ksR rows).length := by
  unfold acR at h
  split at h
  · exact mpl_lt h
  · exact elx_lt h
theorem oI_none {o : Option Nat} (h : oI o < 0) (hl : ∀ t, o = some t → t < 1000) : o = none := by
  cases o with
  | none => rfl
  | some t => exact absurd h (nI_pos (by have := hl t rfl; omega))
theorem oI_some {o : Option Nat} (h : ¬ oI o < 0) : ∃ t, o = some t ∧ oI o = nI t := by
  cases o with
  | none => exact absurd (by decide) h
  | some t => exact ⟨t, rfl, rfl⟩
theorem elx_oI {rows : List Row} {v : Int} {u : Int32} (h1 : -999 ≤ v) (h2 : v ≤ 999) (hl : (ksR rows).length ≤ 160) (hu : u = iI (if v < 0 then v + (ksR rows).length else v)) : (if hdK rows = 5 ∧ ¬ u < 0 ∧ u.toNatClampNeg < (ksR rows).length then u else -1) = oI (elx rows v) := by
  unfold elx
  generalize hz : (if v < 0 then v + ((ksR rows).length : Int) else v) = z at hu ⊢
  have hz1 : -999 ≤ z ∧ z ≤ 2000 := by rw [← hz]; split <;> omega
  subst hu
  by_cases hk : hdK rows = 5
  · by_cases h0 : z < 0
    · rw [if_neg (fun h => h.2.1 ((iI_lt0 (by omega) (by omega)).mpr h0)), if_neg (fun h => by omega)]; rfl
    · rw [iI_clamp (by omega) (by omega)]
      by_cases h3 : z < (ksR rows).length
      · rw [if_pos ⟨hk, fun h => h0 ((iI_lt0 (by omega) (by omega)).mp h), by omega⟩, if_pos ⟨hk, by omega, h3⟩]
        obtain ⟨n, rfl⟩ := Int.eq_ofNat_of_zero_le (Int.not_lt.mp h0)
        exact iI_nat n
      · rw [if_neg (fun h => by omega), if_neg (fun h => by omega)]; rfl
  · rw [if_neg (fun h => hk h.1), if_neg (fun h => hk h.1)]; rfl
def lsV (a b : List Row) : Bool := if hdK a = 3 ∧ hdK b = 3 then decide (hdN a < hdN b) else decide (hdK a = 4) && (decide (hdK b = 4) && ltT (txR a) (txR b))
theorem lsV_r {w : List Row} {k : Nat} {z : Int} {t : List Nat} (hk : k ≤ 4) : lsV w [(k, 0, z, t, [])] = lsL w (k, z, t) := rfl
theorem lsV_l {w : List Row} {k : Nat} {z : Int} {t : List Nat} (hk : k ≤ 4) : lsV [(k, 0, z, t, [])] w = grL w (k, z, t) := by
  show (if k = 3 ∧ hdK w = 3 then decide (z < hdN w) else decide (k = 4) && (decide (hdK w = 4) && ltT t (txR w))) = (if hdK w = 3 ∧ k = 3 then decide (z < hdN w) else decide (hdK w = 4) && (decide (k = 4) && ltT t (txR w)))
  by_cases h1 : k = 3 ∧ hdK w = 3
  · rw [if_pos h1, if_pos h1.symm]
  · rw [if_neg h1, if_neg (fun h => h1 h.symm)]
    cases decide (k = 4) <;> cases decide (hdK w = 4) <;> rfl
theorem ltT_end {a b : List Nat} {n : Nat} (hn : n ≤ a.length) (hb : n ≤ b.length) (hm : n = a.length ∨ n = b.length) (h : ∀ j, j < n → a.getD j 0 = b.getD j 0) : ltT a b = decide (a.length < b.length) := by
  rw [(ltT_drop n a b hn hb h).1]
  rcases hm with hm | hm
  · rw [List.drop_eq_nil_of_le (by omega)]
    cases hd : b.drop n with
    | nil => have := congrArg List.length hd; rw [List.length_drop, List.length_nil] at this; rw [decide_eq_false (by omega)]; rfl
    | cons x r => have := congrArg List.length hd; rw [List.length_drop, List.length_cons] at this; rw [decide_eq_true (by omega)]; rfl
  · rw [show b.drop n = [] from List.drop_eq_nil_of_le (by omega), decide_eq_false (by omega)]
    cases a.drop n <;> rfl
theorem ltT_ne {a b : List Nat} {n : Nat} (ha : n < a.length) (hb : n < b.length) (h : ∀ j, j < n → a.getD j 0 = b.getD j 0) (hne : ¬ a.getD n 0 = b.getD n 0) : ltT a b = decide (a.getD n 0 < b.getD n 0) := by
  rw [(ltT_drop n a b (by omega) (by omega) h).1, drop_cons ha, drop_cons hb, ltT, if_neg hne]
theorem HDr.num {kd : Int32} {tt : List Nat} {nu : Int64} {k : Nat} {num : Int} {tx : List Nat} (h : HDr kd tt nu k num tx) (hk : k = 3) : kd = 1 ∧ nu = Int64.ofInt num ∧ -2 ^ 63 ≤ num ∧ num < 2 ^ 63 := by
  rcases h with ⟨_, h, _⟩ | ⟨h1, _, _, _, h2, h3, h4⟩ | ⟨_, h, _⟩ | ⟨_, h, _⟩ | ⟨_, h, _⟩
  · omega
  · exact ⟨h1, h2, h3, h4⟩
  · omega
  · omega
  · omega
theorem HDr.n1 {kd : Int32} {tt : List Nat} {nu : Int64} {k : Nat} {num : Int} {tx : List Nat} (h : HDr kd tt nu k num tx) (hk : kd = 1) : k = 3 := by
  rcases h with ⟨h, _⟩ | ⟨_, h, _⟩ | ⟨h, _⟩ | ⟨h, _⟩ | ⟨h, _⟩
  · rw [h] at hk; exact absurd hk (by decide)
  · exact h
  · rw [h] at hk; exact absurd hk (by decide)
  · rw [h] at hk; exact absurd hk (by decide)
  · rw [h] at hk; exact absurd hk (by decide)
theorem HDr.s2 {kd : Int32} {tt : List Nat} {nu : Int64} {k : Nat} {num : Int} {tx : List Nat} (h : HDr kd tt nu k num tx) (hk : kd = 2) : k = 4 ∧ tt = tx := by
  rcases h with ⟨h, _⟩ | ⟨h, _⟩ | ⟨_, h, h2, _⟩ | ⟨h, _⟩ | ⟨h, _⟩
  · rw [h] at hk; exact absurd hk (by decide)
  · rw [h] at hk; exact absurd hk (by decide)
  · exact ⟨h, h2⟩
  · rw [h] at hk; exact absurd hk (by decide)
  · rw [h] at hk; exact absurd hk (by decide)
theorem HDr.s4 {kd : Int32} {tt : List Nat} {nu : Int64} {k : Nat} {num : Int} {tx : List Nat} (h : HDr kd tt nu k num tx) (hk : k = 4) : kd = 2 := by
  rcases h with ⟨_, h, _⟩ | ⟨_, h, _⟩ | ⟨h, _⟩ | ⟨_, h, _⟩ | ⟨_, h, _⟩
  · omega
  · omega
  · exact h
  · omega
  · omega
theorem lIo_lt {x y : Int} (h1 : -2 ^ 63 ≤ x) (h2 : x < 2 ^ 63) (h3 : -2 ^ 63 ≤ y) (h4 : y < 2 ^ 63) : Int64.ofInt x < Int64.ofInt y ↔ x < y := by
  rw [Int64.lt_iff_toInt_lt, Int64.toInt_ofInt_of_le h1 h2, Int64.toInt_ofInt_of_le h3 h4]
theorem hdN_of {rows : List Row} {k : Nat} {num : Int} {rt : List Nat} {ns : List (List Nat)} {rs : List (List Row)} (h : rows = (k, 0, num, rt, []) :: kidRows k ns rs) : hdN rows = num ∧ txR rows = rt := by subst h; exact ⟨rfl, rfl⟩
theorem lsV_n {a b : List Row} (h : ¬ (hdK a = 3 ∧ hdK b = 3)) (h2 : ¬ (hdK a = 4 ∧ hdK b = 4)) : lsV a b = false := by
  unfold lsV
  rw [if_neg h]
  by_cases h3 : hdK a = 4
  · rw [decide_eq_false (fun h9 => h2 ⟨h3, h9⟩)]; simp
  · rw [decide_eq_false h3]; rfl
theorem accs_app : ∀ (as bs : List Acx) (x : Plc), accs (as ++ bs) x = (accs as x).bind (accs bs)
  | [], bs, x => rfl
  | a :: as, bs, x => by
    show (acc1 a x).bind (accs (as ++ bs)) = ((acc1 a x).bind (accs as)).bind (accs bs)
    cases acc1 a x with
    | none => rfl
    | some y => exact accs_app as bs y
theorem take_getD {α : Type} {as : List α} {i : Nat} (z : α) (h : i < as.length) : as = as.take i ++ (as.getD i z :: as.drop (i + 1)) := by
  rw [List.getD_eq_getElem?_getD, List.getElem?_eq_getElem h]
  show as = as.take i ++ (as[i] :: as.drop (i + 1))
  rw [← List.drop_eq_getElem_cons h, List.take_append_drop]
theorem accs_bad {as : List Acx} {i : Nat} {x y : Plc} (hi : i < as.length) (h : accs (as.take i) x = some y) (h1 : acR (as.getD i acx0) y.2 = none) : accs as x = none := by
  rw [take_getD acx0 hi, accs_app, h]
  show (acc1 (as.getD i acx0) y).bind _ = none
  rw [acR_acc, h1]; rfl
theorem accs_go {as : List Acx} {i t : Nat} {x y : Plc} (hi : i < as.length) (h : accs (as.take i) x = some y) (h1 : acR (as.getD i acx0) y.2 = some t) : accs (as.take (i + 1)) x = some (kidL y t) := by
  rw [take_step acx0 hi, accs_app, h]
  show (acc1 (as.getD i acx0) y).bind (accs []) = _
  rw [acR_acc, h1]; rfl
theorem hld_no {t : Tst} {x : Plc} (h : accs t.1 x = none) : hld t x = decide (t.2.1 = 2) := by unfold hld; rw [h]
theorem hld_0 {t : Tst} {x y : Plc} (h : accs t.1 x = some y) (h0 : t.2.1 = 0) : hld t x = true := by unfold hld; rw [h]; exact if_pos h0
theorem hld_s {t : Tst} {x y : Plc} (h : accs t.1 x = some y) (h0 : ¬ t.2.1 = 0) : hld t x = cmL t.2.1 y.2 t.2.2 := by unfold hld; rw [h]; exact if_neg h0
/-- sameness with a scalar -/
theorem smR_lit {d e : Nat} {w : List Row} {k : Nat} {z : Int} {t : List Nat} (hw : WR (e + 1) w) (hk : k ≤ 4) (h3 : ¬ k = 3 → z = 0) (h4 : ¬ k = 4 → t = []) (hn : ¬ hdK w = 3 → hdN w = 0) (ht : ¬ hdK w = 4 → txR w = []) : smR (d + 1) w [(k, 0, z, t, [])] = smL w (k, z, t) := by
  obtain ⟨k1, num, rt, ee, hk1, hk5, hk6, hws⟩ := wr_parts hw
  obtain ⟨hN, hT⟩ := hdN_of ee
  have e1 : hdS w [(k, 0, z, t, [])] = (decide (k1 = k) && (decide (num = z) && decide (rt = t))) := by
    conv => lhs; rw [ee]
    rfl
  have e2 : ksR [(k, 0, z, t, [])] = [] := by
    have h9 : WR 1 [(k, 0, z, t, [])] := wr_scal hk
    obtain ⟨k2, n2, r2, ee2, hk2, hk25, -, -⟩ := wr_parts h9
    exact hk25 (by rw [← hk2]; show k < 5; omega)
  unfold smR smL
  rw [e1, e2, hk1, hN, hT]
  by_cases hkk : k1 = k
  · have e3 : ksR w = [] := hk5 (by omega)
    rw [e3, decide_eq_true hkk]
    show ((true && (decide (num = z) && decide (rt = t))) && (decide ((0 : Nat) = 0) && true)) = (true && _)
    rw [decide_eq_true (rfl : (0 : Nat) = 0)]
    simp only [Bool.true_and, Bool.and_true]
    by_cases h33 : k = 3
    · rw [if_pos h33, h4 (by omega), show rt = [] from hT ▸ ht (by omega)]; simp
    · rw [if_neg h33, h3 h33, show num = 0 from hN ▸ hn (by omega)]
      by_cases h44 : k = 4
      · rw [if_pos h44]; simp
      · rw [if_neg h44, h4 h44, show rt = [] from hT ▸ ht (by omega)]; simp
  · rw [decide_eq_false hkk]; rfl
theorem VT.heads {cB cO : ClassId} {em : Nat} {aK : Nat → Nat} {d : Nat} {tl : va_W} {a : Nat} {nn : List Nat} {rows : List Row} (h : VT cB cO em aK (d + 1) tl a nn rows) : (¬ hdK rows = 3 → hdN rows = 0) ∧ (¬ hdK rows = 4 → txR rows = []) := by
  obtain ⟨kd, tx, nu, nm, pa, dp, cn, tt, kk, num, rt, xs, ns, hc, htx, hnm, hal, hhd, hnl, hrl, hk5, hvl, hhk, hns, hdp, hcn, hrw, h160⟩ := h.opn
  obtain ⟨hN, hT⟩ := hdN_of hrw
  rw [hN, hT, hhk]
  rcases hhd with ⟨_, h1, _, h2, h3, _⟩ | ⟨_, h1, _, h3, _⟩ | ⟨_, h1, _, h2, _⟩ | ⟨_, h1, _, h2, h3, _⟩ | ⟨_, h1, _, h2, h3, _⟩
  · exact ⟨fun _ => h2, fun _ => h3⟩
  · exact ⟨fun h => absurd h1 h, fun _ => h3⟩
  · exact ⟨fun _ => h2, fun h => absurd h1 h⟩
  · exact ⟨fun _ => h2, fun _ => h3⟩
  · exact ⟨fun _ => h2, fun _ => h3⟩
theorem bI_nar {b : Bool} : narrow .boolean (.int (bI b)) = .int (bI b) := by cases b <;> rfl
theorem cm1 {w : List Row} {c : Lit} : cmL 1 w c = smL w c := rfl
theorem cm2 {w : List Row} {c : Lit} : cmL 2 w c = !smL w c := rfl
theorem cm3 {w : List Row} {c : Lit} : cmL 3 w c = lsL w c := rfl
theorem cm4 {w : List Row} {c : Lit} : cmL 4 w c = (smL w c || lsL w c) := rfl
theorem cm5 {w : List Row} {c : Lit} : cmL 5 w c = grL w c := rfl
theorem cm6 {w : List Row} {c : Lit} : cmL 6 w c = (smL w c || grL w c) := rfl
/-- values and the places that they stand for -/
def VLS (cB cO : ClassId) (em : Nat) (aK : Nat → Nat) (tl : va_W) (xs : List Nat) (LS : List Plc) : Prop := LS.length = xs.length ∧ ∀ i, i < xs.length → ∃ dy ny, dy ≤ 12 ∧ (LS.getD i (0, [])).2.length ≤ 32 ∧ VT cB cO em aK dy tl (xs.getD i 0) ny (LS.getD i (0, [])).2
theorem VLS.mono {cB cO : ClassId} {em : Nat} {aK : Nat → Nat} {tl tl2 : va_W} {xs : List Nat} {LS : List Plc} (h : VLS cB cO em aK tl xs LS) (hs : ∀ q ∈ tl, q ∈ tl2) : VLS cB cO em aK tl2 xs LS := ⟨h.1, fun i hi => by obtain ⟨dy, ny, h1, h3, h2⟩ := h.2 i hi; exact ⟨dy, ny, h1, h3, h2.mono hs⟩⟩
theorem VLS.nil {cB cO : ClassId} {em : Nat} {aK : Nat → Nat} {tl : va_W} : VLS cB cO em aK tl [] [] := ⟨rfl, fun i hi => absurd hi (Nat.not_lt_zero _)⟩
theorem VLS.app {cB cO : ClassId} {em : Nat} {aK : Nat → Nat} {tl : va_W} {xs : List Nat} {LS : List Plc} {y dy : Nat} {ny : List Nat} {p : Plc} (h : VLS cB cO em aK tl xs LS) (hd : dy ≤ 12) (hl : p.2.length ≤ 32) (h1 : VT cB cO em aK dy tl y ny p.2) : VLS cB cO em aK tl (xs ++ [y]) (LS ++ [p]) := by
  refine ⟨by simp [h.1], fun i hi => ?_⟩
  simp only [List.length_append, List.length_singleton] at hi
  by_cases hi2 : i < xs.length
  · rw [getD_app hi2, getD_app (by rw [h.1]; exact hi2)]; exact h.2 i hi2
  · have e1 : (xs ++ [y]).getD i 0 = y := getD_end1 (by omega)
    have e2 : (LS ++ [p]).getD i (0, []) = p := getD_end1 (by rw [h.1]; omega)
    rw [e1, e2]; exact ⟨dy, ny, hd, hl, h1⟩
theorem VLS.cat {cB cO : ClassId} {em : Nat} {aK : Nat → Nat} {tl : va_W} {xs ys : List Nat} {LS MS : List Plc} (h : VLS cB cO em aK tl xs LS) (h1 : VLS cB cO em aK tl ys MS) : VLS cB cO em aK tl (xs ++ ys) (LS ++ MS) := by
  refine ⟨by simp [h.1, h1.1], fun i hi => ?_⟩
  rw [List.length_append] at hi
  by_cases hi2 : i < xs.length
  · simp only [List.getD_eq_getElem?_getD]
    rw [List.getElem?_append_left hi2, List.getElem?_append_left (by rw [h.1]; exact hi2)]
    have := h.2 i hi2
    simp only [List.getD_eq_getElem?_getD] at this
    exact this
  · simp only [List.getD_eq_getElem?_getD]
    have e1 : (xs ++ ys)[i]? = ys[i - xs.length]? := List.getElem?_append_right (by omega)
    have e2 : (LS ++ MS)[i]? = MS[i - LS.length]? := List.getElem?_append_right (by rw [h.1]; omega)
    rw [e1, e2, h.1]
    have := h1.2 (i - xs.length) (by omega)
    simp only [List.getD_eq_getElem?_getD] at this
    exact this
theorem VLS.vin {cB cO : ClassId} {em : Nat} {aK : Nat → Nat} {tl : va_W} {xs : List Nat} {LS : List Plc} (h : VLS cB cO em aK tl xs LS) : ∀ y ∈ xs, Vin 3 tl y := of_getD (z := 0) (fun i hi => by obtain ⟨dy, ny, h1, h3, h2⟩ := h.2 i hi; exact h2.vin)
theorem kid_le {cB cO : ClassId} {em : Nat} {aK : Nat → Nat} {tl : va_W} {d : Nat} {a : Nat} {nn : List Nat} {x : Plc} {t : Nat} (h : VT cB cO em aK (d + 1) tl a nn x.2) (ht : t < (ksR x.2).length) (hl : x.2.length ≤ 32) : (kidL x t).2.length ≤ 32 := by
  have h1 := slen_rows h.wr
  have h2 := slen_take_succ ht
  have h3 := slen_le (rs := ksR x.2) (t + 1)
  show ((ksR x.2).getD t []).length ≤ 32
  omega
theorem ks_32 {cB cO : ClassId} {em : Nat} {aK : Nat → Nat} {tl : va_W} {d : Nat} {a : Nat} {nn : List Nat} {x : Plc} (h : VT cB cO em aK (d + 1) tl a nn x.2) (hl : x.2.length ≤ 32) : (ksR x.2).length ≤ 32 := by
  have h1 := ks_le h.wr
  omega
theorem ac_up : ∀ (m n : Nat), m ≤ n → n ≤ 160 → acl m ≤ acl n ∧ asl m ≤ asl n
  | m, 0, h, _ => by
    obtain rfl : m = 0 := by omega
    exact ⟨Nat.le_refl _, Nat.le_refl _⟩
  | m, n + 1, h, hn => by
    rcases Nat.lt_or_ge m (n + 1) with h1 | h1
    · have a1 := ac_up m n (by omega) (by omega)
      have a2 := ac_mono n (by omega)
      exact ⟨by omega, by omega⟩
    · obtain rfl : m = n + 1 := by omega
      exact ⟨Nat.le_refl _, Nat.le_refl _⟩
theorem ac_73 : acl 73 = 6 ∧ asl 73 = 202 := by decide
theorem stU_len : ∀ (f : Nat) (i e p : Int), (stU f i e p).length ≤ f
  | 0, _, _, _ => Nat.le_refl _
  | f + 1, i, e, p => by
    rw [stU]
    by_cases hc : (if 0 < p then i < e else e < i)
    · rw [if_pos hc]
      have := stU_len f (i + p) e p
      rw [List.length_cons]; omega
    · rw [if_neg hc]; exact Nat.zero_le _
theorem slc_len {n : Nat} {a b c : Option Int} : (slc n a b c).length ≤ n + 1 := by
  unfold slc
  split
  · simp
  · split
    · exact stU_len _ _ _ _
    · exact stU_len _ _ _ _
theorem chs_len {s : Sel} {x : Plc} (h : (ksR x.2).length ≤ 32) : (chs s x).length ≤ 33 := by
  unfold chs
  split
  · rw [kidsL_len]; omega
  · split
    · cases mpl x.2 s.2.1 <;> simp
    · split
      · cases elx x.2 (s.2.2.1.1.getD 0) <;> simp
      · split
        · split
          · rw [List.length_map]; have := slc_len (n := (ksR x.2).length) (a := s.2.2.1.1) (b := s.2.2.1.2.1) (c := s.2.2.1.2.2); omega
          · simp
        · have := List.length_filter_le (hld s.2.2.2) (kidsL x); rw [kidsL_len] at this; omega
theorem rng_o {o : Option Int} (h : ∀ v, o = some v → -999 ≤ v ∧ v ≤ 999) : -999 ≤ o.getD 1 ∧ o.getD 1 ≤ 999 := by
  cases o with
  | none => exact ⟨by decide, by decide⟩
  | some v => exact h v rfl
theorem chs_sl {x : Plc} {o1 o2 o3 : Option Int} : chs (3, [], (o1, o2, o3), tst0) x = (if hdK x.2 = 5 then (slc (ksR x.2).length o1 o2 o3).map (kidL x) else []) := chs3
theorem chs_al {x : Plc} : chs slA x = kidsL x := rfl
theorem chs_ts {x : Plc} {t : Tst} : chs (4, [], (none, none, none), t) x = (kidsL x).filter (hld t) := by
  unfold chs
  rw [if_neg (fun h => absurd (id h : (4 : Nat) = 0) (by decide)), if_neg (fun h => absurd (id h : (4 : Nat) = 1) (by decide)), if_neg (fun h => absurd (id h : (4 : Nat) = 2) (by decide)), if_neg (fun h => absurd (id h : (4 : Nat) = 3) (by decide))]
theorem chs_nm {x : Plc} {s : List Nat} : chs (slN s) x = ((acR (true, s, 0) x.2).map (kidL x)).toList := by
  unfold chs slN
  rw [if_neg (fun h => absurd (id h : (1 : Nat) = 0) (by decide)), if_pos rfl]; rfl
theorem chs_ix {x : Plc} {v : Int} : chs (2, [], (some v, none, none), tst0) x = ((acR (false, [], v) x.2).map (kidL x)).toList := by
  unfold chs
  rw [if_neg (fun h => absurd (id h : (2 : Nat) = 0) (by decide)), if_neg (fun h => absurd (id h : (2 : Nat) = 1) (by decide)), if_pos rfl]; rfl
theorem ACz.nm {cB : ClassId} {aK : Nat → Nat} {tl : va_W} {q : Acx} {o : Nat} (h : ACz cB aK tl q o) (hq : q.1 = true) : ∃ nm, SEc o 1 nm 0 0 0 Value.null ∈ tl := by
  rcases h with ⟨e, nm, h1, h2⟩ | ⟨e, h1, h2⟩
  · exact ⟨nm, h1⟩
  · rw [hq] at e; cases e
theorem ACz.ix {cB : ClassId} {aK : Nat → Nat} {tl : va_W} {q : Acx} {o : Nat} (h : ACz cB aK tl q o) (hq : q.1 = false) : SEc o 2 (aK 0) (iI q.2.2) 0 0 Value.null ∈ tl := by
  rcases h with ⟨e, nm, h1, h2⟩ | ⟨e, h1, h2⟩
  · rw [hq] at e; cases e
  · exact h1
theorem TSz.vin {cB cO : ClassId} {em : Nat} {aK : Nat → Nat} {tl : va_W} {t : Tst} {o : Nat} (h : TSz cB cO em aK tl t o) : Vin 11 tl o := by
  obtain ⟨al, h1, ⟨h2, h3⟩ | ⟨h2, h3, h6, lv, h4, h5⟩⟩ := h
  · exact ⟨_, h3⟩
  · exact ⟨_, h4⟩
theorem kid_roomA {x : Plc} {C : List Plc} {i n : Nat} (h : C = kidsL x) (hi : i < (ksR x.2).length) (hn : n ≤ ((kidsL x).take i).length) : n + 1 ≤ C.length := by
  rw [h, kidsL_len]
  rw [List.length_take, kidsL_len] at hn
  omega
theorem kid_roomT {x : Plc} {t : Tst} {C : List Plc} {i n : Nat} (h : C = (kidsL x).filter (hld t)) (hi : i < (ksR x.2).length) (hn : n ≤ (((kidsL x).take i).filter (hld t)).length) (hh : hld t (kidL x i) = true) : n + 1 ≤ C.length := by
  have h8 := filter_take1 (g := hld t) hi
  rw [if_pos hh] at h8
  have h9 : (((kidsL x).take (i + 1)).filter (hld t)).length ≤ C.length := by rw [h]; exact ((List.take_sublist _ _).filter _).length_le
  rw [h8, List.length_append, List.length_singleton] at h9
  omega
theorem chA_take {ss : List Sel} {x : Plc} {i : Nat} (h : i < ss.length) : chA (ss.take (i + 1)) x = chA (ss.take i) x ++ chs (ss.getD i slA) x := by
  unfold chA
  rw [take_step slA h, List.flatMap_append]; simp
theorem chA_le {ss : List Sel} {x : Plc} (i : Nat) : (chA (ss.take i) x).length ≤ (chA ss x).length := by
  have h : chA (ss.take i ++ ss.drop i) x = chA ss x := by rw [List.take_append_drop]
  rw [← h]; unfold chA; rw [List.flatMap_append, List.length_append]; omega
theorem evS_f {ss : List Sel} {x : Plc} : evS (false, ss) x = chA ss x := rfl
theorem evS_t {e : Nat} {ss : List Sel} {x : Plc} (hw : WR (e + 1) x.2) (he : e ≤ 11) : evS (true, ss) x = chA ss x ++ (kidsL x).flatMap (evS (true, ss)) := by
  show (dsc 12 x).flatMap (chA ss) = _
  show (x :: (kidsL x).flatMap (dsc 11)).flatMap (chA ss) = _
  rw [List.flatMap_cons, List.flatMap_assoc]
  congr 1
  rw [List.flatMap_def, List.flatMap_def]
  congr 1
  apply List.map_congr_left
  intro z hz
  obtain ⟨t, ht, rfl⟩ := List.mem_map.mp hz
  have htl := List.mem_range.mp ht
  obtain ⟨k, num, rt, e1, hk, hk5, hk6, hws⟩ := wr_parts hw
  have hwk : WR e (kidL x t).2 := by
    show WR e ((ksR x.2).getD t [])
    rw [List.getD_eq_getElem?_getD, List.getElem?_eq_getElem htl]; exact hws _ (List.getElem_mem htl)
  show (dsc 11 (kidL x t)).flatMap (chA ss) = (dsc 12 (kidL x t)).flatMap (chA ss)
  rw [dsc_up e 11 _ hwk he, dsc_up e 12 _ hwk (by omega)]
theorem evS_ge {e : Nat} {dj : Bool} {ss : List Sel} {x : Plc} (hw : WR (e + 1) x.2) (he : e ≤ 11) : (chA ss x).length ≤ (evS (dj, ss) x).length := by
  cases dj with
  | false => exact Nat.le_refl _
  | true => rw [evS_t hw he, List.length_append]; omega
theorem kid_fm {dj : Bool} {ss : List Sel} {x : Plc} {j : Nat} (h : j < (ksR x.2).length) : ((kidsL x).take (j + 1)).flatMap (evS (dj, ss)) = ((kidsL x).take j).flatMap (evS (dj, ss)) ++ evS (dj, ss) (kidL x j) := by
  rw [kidsL_take h, List.flatMap_append]; simp
theorem kid_fle {dj : Bool} {ss : List Sel} {x : Plc} (j : Nat) : (((kidsL x).take j).flatMap (evS (dj, ss))).length ≤ ((kidsL x).flatMap (evS (dj, ss))).length := by
  have h : ((kidsL x).take j ++ (kidsL x).drop j).flatMap (evS (dj, ss)) = (kidsL x).flatMap (evS (dj, ss)) := by rw [List.take_append_drop]
  rw [← h, List.flatMap_append, List.length_append]; omega
theorem ac_min {m n k : Nat} (h : m ≤ n) (h2 : m ≤ 73) : acl m ≤ acl (min 73 n) ∧ asl m ≤ asl (min 73 n) := ac_up m (min 73 n) (by omega) (by omega)
theorem ac_mm {m n : Nat} (h : m ≤ n) : acl (min 73 m) ≤ acl (min 73 n) ∧ asl (min 73 m) ≤ asl (min 73 n) := ac_up (min 73 m) (min 73 n) (by omega) (by omega)
theorem evL_le {sg : Sgm} {ls : List Plc} (i : Nat) : (evL sg (ls.take i)).length ≤ (evL sg ls).length := by
  have h : evL sg (ls.take i ++ ls.drop i) = evL sg ls := by rw [List.take_append_drop]
  rw [← h]; unfold evL; rw [List.flatMap_append, List.length_append]; omega
