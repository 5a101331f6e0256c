theorem filter_take1 {x : Plc} {t : Nat} {g : Plc → Bool} (h : t < (ksR x.2).length) : ((kidsL x).take (t + 1)).filter g = ((kidsL x).take t).filter g ++ (if g (kidL x t) = true then [kidL x t] else []) := by
  rw [kidsL_take h, List.filter_append]
  congr 1
  cases hg : g (kidL x t) <;> simp [hg]
theorem betw {v lo hi : Int} (h : lo ≤ hi) (h1 : -5000 ≤ v) (h2 : v ≤ 5000) (h3 : -5000 ≤ lo) (h4 : hi ≤ 5000) : (if iI v < iI lo then iI lo else if iI hi < iI v then iI hi else iI v) = iI (max lo (min hi v)) := by
  by_cases c1 : v < lo
  · rw [if_pos ((iI_ltI (by omega) (by omega) (by omega) (by omega)).mpr c1)]; congr 1; omega
  · rw [if_neg (fun h9 => c1 ((iI_ltI (by omega) (by omega) (by omega) (by omega)).mp h9))]
    by_cases c2 : hi < v
    · rw [if_pos ((iI_ltI (by omega) (by omega) (by omega) (by omega)).mpr c2)]; congr 1; omega
    · rw [if_neg (fun h9 => c2 ((iI_ltI (by omega) (by omega) (by omega) (by omega)).mp h9))]; congr 1; omega
theorem stU_go {f : Nat} {i e p : Int} (h : if 0 < p then i < e else e < i) : stU (f + 1) i e p = i.toNat :: stU f (i + p) e p := by rw [stU, if_pos h]
theorem stU_no {f : Nat} {i e p : Int} (h : ¬ (if 0 < p then i < e else e < i)) : stU f i e p = [] := by
  cases f with
  | zero => rfl
  | succ f => rw [stU, if_neg h]
theorem slc_pos {n : Nat} {a b : Option Int} {p : Int} (h : 0 < p) : slc n a b (some p) = stU (n + 1) (bnd a n 0 n 0) (bnd b n 0 n n) p := by
  unfold slc
  rw [show (some p).getD 1 = p from rfl, if_neg (by omega), if_pos h]
theorem slc_neg {n : Nat} {a b : Option Int} {p : Int} (h : p < 0) : slc n a b (some p) = stU (n + 1) (bnd a n (-1) (n - 1) (n - 1)) (bnd b n (-1) (n - 1) (-1)) p := by
  unfold slc
  rw [show (some p).getD 1 = p from rfl, if_neg (by omega), if_neg (by omega)]
theorem slc_c {n : Nat} {a b c : Option Int} : slc n a b c = slc n a b (some (c.getD 1)) := by cases c <;> rfl
def chX (xo : Option Plc) (s : Sel) : List Plc := match xo with
  | none => []
  | some x => chs s x
def chAX (xo : Option Plc) (ss : List Sel) : List Plc := match xo with
  | none => []
  | some x => chA ss x
theorem chAX_snoc {xo : Option Plc} {ss : List Sel} {s : Sel} : chAX xo (ss ++ [s]) = chAX xo ss ++ chX xo s := by
  cases xo with
  | none => rfl
  | some x => show chA (ss ++ [s]) x = chA ss x ++ chs s x; unfold chA; rw [List.flatMap_append]; simp
theorem chAX_nil {xo : Option Plc} : chAX xo [] = [] := by cases xo <;> rfl
theorem chs3 {x : Plc} {a b c : Option Int} : chs (3, [], (a, b, c), tst0) x = if hdK x.2 = 5 then (slc (ksR x.2).length a b c).map (kidL x) else [] := by
  unfold chs
  rw [if_neg (fun h => absurd (id h : (3 : Nat) = 0) (by decide)), if_neg (fun h => absurd (id h : (3 : Nat) = 1) (by decide)), if_neg (fun h => absurd (id h : (3 : Nat) = 2) (by decide)), if_pos rfl]
theorem chs2 {xo : Option Plc} {v : Int} : chX xo (2, [], (some v, none, none), tst0) = (xo.bind (fun x8 => (elx x8.2 v).map (kidL x8))).toList := by
  cases xo with
  | none => rfl
  | some x =>
    show chs (2, [], (some v, none, none), tst0) x = ((elx x.2 v).map (kidL x)).toList
    unfold chs
    rw [if_neg (fun h => absurd (id h : (2 : Nat) = 0) (by decide)), if_neg (fun h => absurd (id h : (2 : Nat) = 1) (by decide)), if_pos rfl]; rfl
theorem chs1 {xo : Option Plc} {s : List Nat} : chX xo (slN s) = (xo.bind (fun x8 => (mpl x8.2 s).map (kidL x8))).toList := by
  cases xo with
  | none => rfl
  | some x =>
    show chs (slN s) x = ((mpl x.2 s).map (kidL x)).toList
    unfold chs slN
    rw [if_neg (fun h => absurd (id h : (1 : Nat) = 0) (by decide)), if_pos rfl]
theorem chs0 {xo : Option Plc} : chX xo slA = (match xo with | none => [] | some x8 => kidsL x8) := by
  cases xo with
  | none => rfl
  | some x => rfl
theorem chs4 {xo : Option Plc} {t : Tst} : chX xo (4, [], (none, none, none), t) = (match xo with | none => [] | some x8 => (kidsL x8).filter (hld t)) := by
  cases xo with
  | none => rfl
  | some x =>
    show chs (4, [], (none, none, none), t) x = (kidsL x).filter (hld t)
    unfold chs
    rw [if_neg (fun h => absurd (id h : (4 : Nat) = 0) (by decide)), if_neg (fun h => absurd (id h : (4 : Nat) = 1) (by decide)), if_neg (fun h => absurd (id h : (4 : Nat) = 2) (by decide)), if_neg (fun h => absurd (id h : (4 : Nat) = 3) (by decide))]
theorem lok_el {w : List Row} {xo : Option Plc} {v : Int} (h : ∀ x8, xo = some x8 → LOK w x8) : ∀ x8, xo.bind (fun x8 => (elx x8.2 v).map (kidL x8)) = some x8 → LOK w x8 := fun x8 he => by
  obtain ⟨x, h1, h2⟩ := Option.bind_eq_some_iff.mp he
  obtain ⟨t, ht, rfl⟩ := Option.map_eq_some_iff.mp h2
  exact lok_kid (h x h1) (elx_lt ht)
theorem lok_mb {w : List Row} {xo : Option Plc} {s : List Nat} (h : ∀ x8, xo = some x8 → LOK w x8) : ∀ x8, xo.bind (fun x8 => (mpl x8.2 s).map (kidL x8)) = some x8 → LOK w x8 := fun x8 he => by
  obtain ⟨x, h1, h2⟩ := Option.bind_eq_some_iff.mp he
  obtain ⟨t, ht, rfl⟩ := Option.map_eq_some_iff.mp h2
  exact lok_kid (h x h1) (mpl_lt ht)
