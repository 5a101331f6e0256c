/-! numbers: how they are read -/
theorem lg_lt0 {x y : Int64} : lg_cmp x y < 0 ↔ x < y := by
  unfold lg_cmp
  by_cases h1 : y < x
  · simp only [h1, if_true]
    exact ⟨fun h => absurd h (by decide), fun h => absurd h (Int64.lt_asymm h1)⟩
  · by_cases h2 : x = y
    · subst h2
      simp only [h1, if_false, if_true]
      exact ⟨fun h => absurd h (by decide), fun h => h.elim⟩
    · simp only [h1, h2, if_false]
      refine ⟨fun _ => ?_, fun _ => by decide⟩
      rcases Int64.lt_or_eq_of_le (Int64.not_lt.mp h1) with h | h
      · exact h
      · exact absurd h h2
theorem lg_eq0 {x y : Int64} : lg_cmp x y = 0 ↔ x = y := by
  unfold lg_cmp
  by_cases h1 : y < x
  · simp only [h1, if_true]
    exact ⟨fun h => absurd h (by decide), fun h => absurd h1 (by rw [h]; exact Int64.lt_irrefl)⟩
  · by_cases h2 : x = y
    · simp [h1, h2]
    · simp only [h1, h2, if_false]
      exact ⟨fun h => absurd h (by decide), fun h => h.elim⟩
theorem lg_ge0 {x y : Int64} : 0 ≤ lg_cmp x y ↔ ¬ x < y := by
  rw [← Int32.not_lt, lg_lt0]
/-- a long from an integer -/
def lI (z : Int) : Int64 := Int64.ofInt z
theorem lI_toInt {z : Int} (h1 : -2 ^ 63 ≤ z) (h2 : z < 2 ^ 63) : (lI z).toInt = z := Int64.toInt_ofInt_of_le h1 h2
theorem lI_lt {x y : Int} (h1 : -2 ^ 63 ≤ x) (h2 : x < 2 ^ 63) (h3 : -2 ^ 63 ≤ y) (h4 : y < 2 ^ 63) : lI x < lI y ↔ x < y := by
  rw [Int64.lt_iff_toInt_lt, lI_toInt h1 h2, lI_toInt h3 h4]
theorem lI_eq {x y : Int} (h1 : -2 ^ 63 ≤ x) (h2 : x < 2 ^ 63) (h3 : -2 ^ 63 ≤ y) (h4 : y < 2 ^ 63) : lI x = lI y ↔ x = y := by
  constructor
  · intro h
    have := congrArg Int64.toInt h
    rwa [lI_toInt h1 h2, lI_toInt h3 h4] at this
  · intro h; rw [h]
theorem lI_mul (x y : Int) : lI x * lI y = lI (x * y) := (Int64.ofInt_mul ..).symm
theorem lI_add (x y : Int) : lI x + lI y = lI (x + y) := (Int64.ofInt_add ..).symm
theorem lI_sub (x y : Int) : lI x - lI y = lI (x - y) := (Int64.ofInt_sub ..).symm
theorem lI_neg (x : Int) : - lI x = lI (-x) := (Int64.ofInt_neg ..).symm
theorem lI_dig : ∀ d, d < 10 → (nI d).toInt64 = lI d := by decide +kernel
/-- digits: the sum, and what stands behind them; none where it grows too great -/
def numD : List Nat → Nat → Option (Nat × List Nat)
  | [], v => some (v, [])
  | c :: R, v => if isDig c then (if 2 ^ 63 < 10 * v + (c - 48) then none else numD R (10 * v + (c - 48))) else some (v, c :: R)
def numF (mi : Bool) (o : Option (Nat × List Nat)) : Option (Int × List Nat) := match o with
  | none => none
  | some (v, R) => if mi then some (-(v : Int), R) else if v = 2 ^ 63 then none else some ((v : Int), R)
/-- a number -/
def numR (mi : Bool) (R : List Nat) : Option (Int × List Nat) := if hd0 R = 48 then some (0, R.drop 1) else if isDig (hd0 R) then numF mi (numD R 0) else none
def num (R : List Nat) : Option (Int × List Nat) := if hd0 R = 45 then numR true (R.drop 1) else numR false R
theorem numD_le : ∀ (R : List Nat) (v : Nat) (q : Nat × List Nat), numD R v = some q → q.2.length ≤ R.length
  | [], v, q, h => by simp [numD] at h; subst h; simp
  | c :: R, v, q, h => by
    rw [numD] at h
    split at h
    · split at h
      · cases h
      · have := numD_le R _ q h
        simp only [List.length_cons]; omega
    · cases h; simp
theorem cns_num {mi : Bool} {R0 R : List Nat} {v : Nat} (hl : R.length ≤ R0.length) : R0.length ≤ cns R0 (numF mi (numD R v)) + R.length := by
  cases hq : numD R v with
  | none => simp [numF, cns]
  | some q =>
    have := numD_le R v q hq
    obtain ⟨z, R2⟩ := q
    simp only [numF]
    split
    · simp [cns] at this ⊢; omega
    · split
      · simp [cns]
      · simp [cns] at this ⊢; omega
theorem numD_dig {R : List Nat} {v c : Nat} (h : isDig c = true) (hv : 10 * v + (c - 48) ≤ 2 ^ 63) : numD (c :: R) v = numD R (10 * v + (c - 48)) := by
  rw [numD, if_pos h, if_neg (by omega)]
theorem numD_big {R : List Nat} {v c : Nat} (h : isDig c = true) (hv : 2 ^ 63 < 10 * v + (c - 48)) : numD (c :: R) v = none := by
  rw [numD, if_pos h, if_pos hv]
theorem numD_end {L : List Nat} {b v : Nat} (h : isDig (L.getD b 0) = false) : numD (L.drop b) v = some (v, L.drop b) := by
  by_cases hb : b < L.length
  · rw [drop_cons hb, numD, h]; rfl
  · rw [List.drop_eq_nil_of_le (by omega)]; rfl
theorem isDig_iff {c : Nat} : isDig c = true ↔ 48 ≤ c ∧ c ≤ 57 := by simp [isDig]
theorem bI_ne {b : Bool} : ¬ bI b = 0 ↔ b = true := by cases b <;> decide
theorem bI_eq {b : Bool} : bI b = 0 ↔ b = false := by cases b <;> decide
theorem nb_c1 : (-922337203685477580 : Int64) = lI (-922337203685477580) := by decide +kernel
theorem nb_c2 : (-9223372036854775808 : Int64) = lI (-9223372036854775808) := by decide +kernel
theorem nb_c3 : (10 : Int64) = lI 10 := by decide +kernel
theorem nb_big1 {v : Nat} (d : Nat) (hv : v ≤ 2 ^ 63) (h : lg_cmp (lI (-(v : Int))) (-922337203685477580) < 0) : 2 ^ 63 < 10 * v + d := by
  rw [lg_lt0, nb_c1, lI_lt (by omega) (by omega) (by omega) (by omega)] at h
  omega
theorem nb_ok1 {v : Nat} (hv : v ≤ 2 ^ 63) (h : ¬ lg_cmp (lI (-(v : Int))) (-922337203685477580) < 0) : v ≤ 922337203685477580 := by
  rw [lg_lt0, nb_c1, lI_lt (by omega) (by omega) (by omega) (by omega)] at h
  omega
theorem nb_mul (v : Nat) : lI (-(v : Int)) * 10 = lI (-((10 * v : Nat) : Int)) := by
  rw [nb_c3, lI_mul]; congr 1; omega
theorem nb_add {d : Nat} (hd : d < 10) : (-9223372036854775808 : Int64) + (nI d).toInt64 = lI (-9223372036854775808 + (d : Int)) := by
  rw [lI_dig d hd, nb_c2, lI_add]
theorem nb_ok2 {v d : Nat} (hv : v ≤ 922337203685477580) (hd : d < 10) (h : 0 ≤ lg_cmp (lI (-((10 * v : Nat) : Int))) (lI (-9223372036854775808 + (d : Int)))) : 10 * v + d ≤ 2 ^ 63 := by
  rw [lg_ge0, lI_lt (by omega) (by omega) (by omega) (by omega)] at h
  omega
theorem nb_big2 {v d : Nat} (hv : v ≤ 922337203685477580) (hd : d < 10) (h : ¬ 0 ≤ lg_cmp (lI (-((10 * v : Nat) : Int))) (lI (-9223372036854775808 + (d : Int)))) : 2 ^ 63 < 10 * v + d := by
  rw [lg_ge0, lI_lt (by omega) (by omega) (by omega) (by omega)] at h
  omega
theorem nb_sub {v d : Nat} (hd : d < 10) : lI (-((10 * v : Nat) : Int)) - (nI d).toInt64 = lI (-((10 * v + d : Nat) : Int)) := by
  rw [lI_dig d hd, lI_sub]; congr 1; omega
theorem nb_least {v : Nat} (hv : v ≤ 2 ^ 63) : lg_cmp (lI (-(v : Int))) (-9223372036854775808) = 0 ↔ v = 2 ^ 63 := by
  rw [lg_eq0, nb_c2, lI_eq (by omega) (by omega) (by omega) (by omega)]
  omega
theorem nb_neg (v : Nat) : - lI (-(v : Int)) = lI (v : Int) := by rw [lI_neg]; congr 1; omega
theorem nb_rng1 {v : Nat} (hv : v ≤ 2 ^ 63) : -2 ^ 63 ≤ -(v : Int) ∧ -(v : Int) < 2 ^ 63 := by omega
theorem nb_rng2 {v : Nat} (hv : v ≤ 2 ^ 63) (hb : ¬ v = 2 ^ 63) : -2 ^ 63 ≤ (v : Int) ∧ (v : Int) < 2 ^ 63 := by omega
theorem dec_neg {v : Nat} (h : 1 ≤ v) : dec (-(v : Int)) = [45] ++ digs v := by
  rw [dec, if_pos (by omega), show (-(v : Int)).natAbs = v by omega]; rfl
theorem dec_pos {v : Nat} : dec (v : Int) = [] ++ digs v := by
  rw [dec, if_neg (by omega), show (v : Int).natAbs = v by omega]; rfl
theorem nb_hd0 : HDr 1 (LTx.getD 1 []) 0 3 0 [] := Or.inr (Or.inl ⟨rfl, rfl, by rw [dec, if_neg (by decide), show (0 : Int).natAbs = 0 from rfl, digs_one (by decide)]; decide, rfl, by decide, by decide, by decide⟩)
theorem nb_hd {tt : List Nat} {z : Int} (h : tt = dec z) (hr : -2 ^ 63 ≤ z ∧ z < 2 ^ 63) : HDr 1 tt (lI z) 3 z [] := Or.inr (Or.inl ⟨rfl, rfl, h, rfl, rfl, hr.1, hr.2⟩)
