/-! the digits of a number, from the first to the last -/
theorem nb_div {v p : Nat} (hv : v ≤ 2 ^ 63) (hp : 1 ≤ p) (hp2 : p < 2 ^ 63) : lI (-(v : Int)) / lI (p : Int) = lI (-((v / p : Nat) : Int)) := by
  apply Int64.toInt_inj.mp
  have h1 : v / p ≤ v := Nat.div_le_self v p
  have e : (-(v : Int)).tdiv (p : Int) = -((v / p : Nat) : Int) := by rw [Int.neg_tdiv, Int.ofNat_tdiv]
  rw [Int64.toInt_div, lI_toInt (by omega) (by omega), lI_toInt (by omega) (by omega), e]
  generalize v / p = q at h1 ⊢
  rw [lI_toInt (by omega) (by omega), Int.bmod_eq_of_le (by omega) (by omega)]
theorem nb_rem {v : Nat} (hv : v ≤ 2 ^ 63) : lI (-(v : Int)) - lI (-(v : Int)) / 10 * 10 = lI (-((v % 10 : Nat) : Int)) := by
  rw [show lI (-(v : Int)) / 10 = lI (-((v / 10 : Nat) : Int)) from (congrArg (fun z => lI (-(v : Int)) / z) nb_c3).trans (nb_div hv (by decide) (by decide)), nb_mul, lI_sub]
  congr 1
  omega
theorem nb_chr : ∀ d : Nat, d < 10 → ((((48 : Int64) - lI (-(d : Int))).toInt32).toUInt32 % 65536).toInt32 = nI (48 + d) := by decide +kernel
/-- the digits of v from the place of 10 ^ e on -/
def digE (v : Nat) : Nat → List Nat
  | 0 => [48 + v % 10]
  | e + 1 => (48 + v / 10 ^ (e + 1) % 10) :: digE v e
theorem digE_app (v e : Nat) : digE v (e + 1) = digE (v / 10) e ++ [48 + v % 10] := by
  induction e with
  | zero => simp [digE]
  | succ e ih =>
    rw [digE, ih, digE, Nat.div_div_eq_div_mul, show 10 * 10 ^ (e + 1) = 10 ^ (e + 1 + 1) by rw [Nat.pow_succ 10 (e + 1), Nat.mul_comm]]
    rfl
theorem digE_eq : ∀ (e v : Nat), v / 10 ^ e < 10 → (e = 0 ∨ 1 ≤ v / 10 ^ e) → digE v e = digs v
  | 0, v, h, _ => by
    rw [digE, digs_one (by simpa using h), Nat.mod_eq_of_lt (by simpa using h)]
  | e + 1, v, h, h2 => by
    have h3 : 1 ≤ v / 10 ^ (e + 1) := h2.resolve_left (by omega)
    have e1 : v / 10 ^ (e + 1) = v / 10 / 10 ^ e := by rw [Nat.div_div_eq_div_mul, Nat.pow_succ, Nat.mul_comm]
    rw [e1] at h h3
    rw [digE_app, digE_eq e (v / 10) h (Or.inr h3)]
    have hv : 10 ≤ v := by
      have : 1 ≤ v / 10 := Nat.le_trans h3 (Nat.div_le_self _ _)
      omega
    rw [digs.eq_1 v, if_neg (by omega)]
