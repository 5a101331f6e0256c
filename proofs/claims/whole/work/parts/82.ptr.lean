/-! pointers as texts -/
def spl : List Nat → List (List Nat)
  | [] => [[]]
  | c :: R => if c = 47 then [] :: spl R else (match spl R with
    | [] => [[c]]
    | s :: ss => (c :: s) :: ss)
def dcd : List Nat → Option (List Nat)
  | [] => some []
  | [c] => if c = 126 then none else some [c]
  | c :: d :: R => if c = 126 then (if d = 48 then (dcd R).map (fun q => 126 :: q) else if d = 49 then (dcd R).map (fun q => 47 :: q) else none) else (dcd (d :: R)).map (fun q => c :: q)
def dcs : List (List Nat) → Option (List (List Nat))
  | [] => some []
  | s :: ss => match dcd s, dcs ss with
    | some q, some qs => some (q :: qs)
    | _, _ => none
def ptr (tx : List Nat) : Option (List (List Nat)) := match tx with
  | [] => some []
  | c :: R => if c = 47 then dcs (spl R) else none
theorem spl_one : ∀ (s : List Nat), (∀ c ∈ s, ¬ c = 47) → spl s = [s]
  | [], _ => rfl
  | c :: s, h => by rw [spl, if_neg (h c List.mem_cons_self), spl_one s (fun x hx => h x (List.mem_cons_of_mem _ hx))]
theorem spl_cons : ∀ (s : List Nat) (R : List Nat), (∀ c ∈ s, ¬ c = 47) → spl (s ++ 47 :: R) = s :: spl R
  | [], R, _ => by rw [List.nil_append, spl, if_pos rfl]
  | c :: s, R, h => by rw [List.cons_append, spl, if_neg (h c List.mem_cons_self), spl_cons s R (fun x hx => h x (List.mem_cons_of_mem _ hx))]
/-- a step ahead of the steps that are known -/
theorem ptr_step {s R : List Nat} (hs : ∀ c ∈ s, ¬ c = 47) (hR : R = [] ∨ hd0 R = 47) : ptr (47 :: (s ++ R)) = match dcd s, ptr R with
    | some q, some qs => some (q :: qs)
    | _, _ => none := by
  show dcs (spl (s ++ R)) = _
  cases R with
  | nil =>
    rw [List.append_nil, spl_one s hs, dcs]
    rfl
  | cons c R =>
    rcases hR with hR | hR
    · cases hR
    · have hc : c = 47 := hR
      subst hc
      rw [spl_cons s R hs, dcs]
      rfl
theorem dcs_none {s : List Nat} (h : dcd s = none) : ∀ (a b : List (List Nat)), dcs (a ++ s :: b) = none
  | [], b => by rw [List.nil_append, dcs, h]
  | x :: a, b => by
    rw [List.cons_append, dcs, dcs_none h a b]
    cases dcd x <;> rfl
theorem spl_ne (R : List Nat) : ∃ s ss, spl R = s :: ss := by
  cases R with
  | nil => exact ⟨_, _, rfl⟩
  | cons c R =>
    rw [spl]
    split
    · exact ⟨_, _, rfl⟩
    · cases spl R with
      | nil => exact ⟨_, _, rfl⟩
      | cons a b => exact ⟨_, _, rfl⟩
theorem spl_app : ∀ (A R : List Nat), ∃ (a : List (List Nat)), spl (A ++ 47 :: R) = a ++ spl R ∧ a ≠ []
  | [], R => ⟨[[]], by rw [List.nil_append, spl, if_pos rfl]; rfl, by simp⟩
  | c :: A, R => by
    obtain ⟨a, h1, h2⟩ := spl_app A R
    rw [List.cons_append, spl]
    split
    · exact ⟨[] :: a, by rw [h1]; rfl, by simp⟩
    · rw [h1]
      cases a with
      | nil => exact absurd rfl h2
      | cons x a => exact ⟨(c :: x) :: a, rfl, by simp⟩
/-- a step that is none -/
theorem ptr_bad {A s R : List Nat} (hs : ∀ c ∈ s, ¬ c = 47) (hR : R = [] ∨ hd0 R = 47) (hd : dcd s = none) : ptr (A ++ 47 :: (s ++ R)) = none := by
  have h0 : ∃ b, spl (s ++ R) = s :: b := by
    cases R with
    | nil => exact ⟨[], by rw [List.append_nil, spl_one s hs]⟩
    | cons c R =>
      rcases hR with hR | hR
      · cases hR
      · have hc : c = 47 := hR
        subst hc
        exact ⟨_, spl_cons s R hs⟩
  obtain ⟨b, hb⟩ := h0
  cases A with
  | nil =>
    show dcs (spl (s ++ R)) = none
    rw [hb]
    exact dcs_none hd [] b
  | cons c A =>
    show (if c = 47 then dcs (spl (A ++ 47 :: (s ++ R))) else none) = none
    split
    · obtain ⟨a, h1, -⟩ := spl_app A (s ++ R)
      rw [h1, hb]
      exact dcs_none hd a b
    · rfl
theorem ptr_no {c : Nat} {A R : List Nat} (h : ¬ c = 47) : ptr (c :: A ++ R) = none := if_neg h
def encC (c : Nat) : List Nat := if c = 126 then [126, 48] else if c = 47 then [126, 49] else [c]
theorem dcd_enc : ∀ (n : Nat) (a q : List Nat), a.length ≤ n → (∀ c ∈ a, ¬ c = 47) → dcd a = some q → a = q.flatMap encC
  | _, [], q, _, _, h => by cases h; rfl
  | 0, _ :: _, _, hn, _, _ => by simp at hn
  | n + 1, [c], q, hn, h47, h => by
    rw [dcd] at h
    split at h
    · cases h
    · next hc =>
      cases h
      simp [encC, hc, h47 c List.mem_cons_self]
  | n + 1, c :: d :: R, q, hn, h47, h => by
    simp only [List.length_cons] at hn
    rw [dcd] at h
    split at h
    · next hc =>
      subst hc
      split at h
      · next hd =>
        subst hd
        obtain ⟨z, hz, rfl⟩ := Option.map_eq_some_iff.mp h
        have := dcd_enc n R z (by omega) (fun x hx => h47 x (List.mem_cons_of_mem _ (List.mem_cons_of_mem _ hx))) hz
        rw [List.flatMap_cons, ← this]
        rfl
      · split at h
        · next hd =>
          subst hd
          obtain ⟨z, hz, rfl⟩ := Option.map_eq_some_iff.mp h
          have := dcd_enc n R z (by omega) (fun x hx => h47 x (List.mem_cons_of_mem _ (List.mem_cons_of_mem _ hx))) hz
          rw [List.flatMap_cons, ← this]
          rfl
        · cases h
    · next hc =>
      obtain ⟨z, hz, rfl⟩ := Option.map_eq_some_iff.mp h
      have := dcd_enc n (d :: R) z (by simp only [List.length_cons]; omega) (fun x hx => h47 x (List.mem_cons_of_mem _ hx)) hz
      rw [List.flatMap_cons, ← this]
      simp [encC, hc, h47 c List.mem_cons_self]
/-- the text of steps -/
def ptx (ss : List (List Nat)) : List Nat := ss.flatMap (fun s => 47 :: s.flatMap encC)
theorem spl_mem : ∀ (R : List Nat), ∀ s ∈ spl R, ∀ c ∈ s, ¬ c = 47
  | [], s, hs, c, hc => by simp [spl] at hs; subst hs; cases hc
  | x :: R, s, hs, c, hc => by
    rw [spl] at hs
    split at hs
    · rcases List.mem_cons.mp hs with rfl | hs
      · cases hc
      · exact spl_mem R s hs c hc
    · next hx =>
      have ih := spl_mem R
      cases he : spl R with
      | nil =>
        rw [he] at hs
        simp at hs
        subst hs
        simp at hc
        subst hc
        exact hx
      | cons a b =>
        rw [he] at hs ih
        rcases List.mem_cons.mp hs with rfl | hs
        · rcases List.mem_cons.mp hc with rfl | hc
          · exact hx
          · exact ih a List.mem_cons_self c hc
        · exact ih s (List.mem_cons_of_mem _ hs) c hc
theorem spl_txt : ∀ (R : List Nat), (spl R).flatMap (fun s => 47 :: s) = 47 :: R
  | [] => rfl
  | x :: R => by
    have ih := spl_txt R
    rw [spl]
    split
    · next h => rw [List.flatMap_cons, ih, h]; rfl
    · cases he : spl R with
      | nil => rw [he] at ih; cases ih
      | cons a b =>
        rw [he, List.flatMap_cons] at ih
        rw [List.flatMap_cons]
        simp at ih ⊢
        exact ih
theorem dcs_txt : ∀ (ss qs : List (List Nat)), (∀ s ∈ ss, ∀ c ∈ s, ¬ c = 47) → dcs ss = some qs → ptx qs = ss.flatMap (fun s => 47 :: s)
  | [], qs, _, h => by cases h; rfl
  | s :: ss, qs, h47, h => by
    rw [dcs] at h
    cases h1 : dcd s with
    | none => rw [h1] at h; cases h
    | some q =>
      cases h2 : dcs ss with
      | none => rw [h1, h2] at h; cases h
      | some z =>
        rw [h1, h2] at h
        cases h
        have i1 := dcd_enc _ s q (Nat.le_refl _) (h47 s List.mem_cons_self) h1
        have i2 := dcs_txt ss z (fun s hs => h47 s (List.mem_cons_of_mem _ hs)) h2
        show (47 :: q.flatMap encC) ++ ptx z = _
        rw [i2, ← i1, List.flatMap_cons]
/-- a pointer's text is the text of its steps -/
theorem ptr_txt {tx : List Nat} {ss : List (List Nat)} (h : ptr tx = some ss) : tx = ptx ss := by
  cases tx with
  | nil => cases h; rfl
  | cons c R =>
    have h' : (if c = 47 then dcs (spl R) else none) = some ss := h
    split at h'
    · next hc =>
      rw [dcs_txt _ _ (spl_mem R) h', spl_txt, hc]
    · cases h'
