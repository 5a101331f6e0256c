theorem wb_tb (n : Nat) : (lN n).toBitVec = BitVec.ofNat 64 n := rfl
theorem wb_inj {a b : Int64} (h : a.toBitVec = b.toBitVec) : a = b := Int64.toBitVec_inj.mp h
theorem wb_tn {n : Nat} (h : n < 2 ^ 64) : (lN n).toBitVec.toNat = n := by rw [wb_tb, BitVec.toNat_ofNat, Nat.mod_eq_of_lt h]
theorem wb_of (x : Int64) : ∃ n, n < 2 ^ 64 ∧ x = lN n := ⟨x.toBitVec.toNat, x.toBitVec.isLt, wb_inj (by rw [wb_tb]; simp)⟩
theorem wb_c : ∀ k, k < 64 → ((nI k).toInt64 &&& 63) = lN k := by decide +kernel
theorem wb_cu : ∀ k, k < 64 → ((nI k).toInt64.toUInt64 &&& Int64.toUInt64 63) = UInt64.ofNat k := by decide +kernel
theorem wb_sm : ∀ k, k < 64 → (BitVec.ofNat 64 k).smod 64 = BitVec.ofNat 64 k := by decide +kernel
theorem wb_shr {n k : Nat} (hn : n < 2 ^ 64) (hk : k < 64) : ((lN n).toUInt64 >>> ((nI k).toInt64.toUInt64 &&& Int64.toUInt64 63)).toInt64 = lN (n / 2 ^ k) := by
  rw [wb_cu k hk]
  apply wb_inj
  apply BitVec.eq_of_toNat_eq
  show ((lN n).toUInt64 >>> UInt64.ofNat k).toNat = (BitVec.ofNat 64 _).toNat
  have h1 : (UInt64.ofNat k).toNat = k := by
    show (BitVec.ofNat 64 k).toNat = k
    rw [BitVec.toNat_ofNat, Nat.mod_eq_of_lt (by omega)]
  have h2 : (lN n).toUInt64.toNat = n := wb_tn hn
  rw [UInt64.toNat_shiftRight, h1, h2, Nat.mod_eq_of_lt hk, Nat.shiftRight_eq_div_pow, BitVec.toNat_ofNat, Nat.mod_eq_of_lt (Nat.lt_of_le_of_lt (Nat.div_le_self _ _) hn)]
/-- the j-th byte of a long, from the top -/
def wr_b (w : Int64) (j : Nat) : Nat := w.toBitVec.toNat / 2 ^ (56 - 8 * j) % 256
/-- the shift of the j-th turn -/
def wr_sh (j : Nat) : Int32 := 56 - nI (8 * j)
/-- a code that may be written, or none -/
def wr_good (c : Nat) : Prop := c = 0 ∨ (32 ≤ c ∧ c ≤ 126)
/-- how many of the first j bytes are written -/
def wr_n (w : Int64) : Nat → Nat
  | 0 => 0
  | j + 1 => if wr_b w j = 0 then wr_n w j else wr_n w j + 1
theorem wr_n_s (w : Int64) (j : Nat) : wr_n w (j + 1) = if wr_b w j = 0 then wr_n w j else wr_n w j + 1 := rfl
theorem wr_b_lt (w : Int64) (j : Nat) : wr_b w j < 256 := Nat.mod_lt _ (by decide)
theorem wr_sh_nI : ∀ j, j < 8 → wr_sh j = nI (56 - 8 * j) := by decide
theorem wr_sh_step : ∀ j, j < 8 → wr_sh j + Int32.ofInt (-8) = wr_sh (j + 1) := by decide
theorem wr_sh_neg : ∀ j, j < 8 → ¬ wr_sh j < 0 := by decide
theorem wr_sh_8 : wr_sh 8 < 0 := by decide
theorem wr_sh_0 : wr_sh 0 = 56 := by decide
theorem wr_n_le (w : Int64) : ∀ j, wr_n w j ≤ j
  | 0 => Nat.le_refl _
  | j + 1 => by
    have := wr_n_le w j
    unfold wr_n
    split <;> omega
theorem wr_n_mono (w : Int64) (i : Nat) : ∀ k, wr_n w i ≤ wr_n w (i + k)
  | 0 => Nat.le_refl _
  | k + 1 => by
    have := wr_n_mono w i k
    rw [← Nat.add_assoc, wr_n_s]
    split <;> omega
/-- the class's byte -/
theorem wr_cls (w : Int64) {j : Nat} (hj : j < 8) : ((w.toUInt64 >>> ((wr_sh j).toInt64.toUInt64 &&& Int64.toUInt64 63)).toInt64.toInt32) &&& 255 = nI (wr_b w j) := by
  obtain ⟨n, hn, rfl⟩ := wb_of w
  rw [wr_sh_nI j hj, wb_shr hn (by omega), lN_i, pk_and _ 8 (by decide)]
  unfold wr_b
  rw [wb_tn hn]
  have e : (nI (n / 2 ^ (56 - 8 * j))).toBitVec.toNat = n / 2 ^ (56 - 8 * j) % 2 ^ 32 := by
    show (BitVec.ofNat 32 _).toNat = _
    rw [BitVec.toNat_ofNat]
  rw [e]
  congr 1
  omega
theorem wr_255 : ∀ i, i < 64 → (255#64).getLsbD i = decide (i < 8) := by decide
theorem wr_sar (x : BitVec 64) {k : Nat} (hk : k ≤ 56) : x.sshiftRight k &&& 255#64 = x >>> k &&& 255#64 := by
  apply BitVec.eq_of_getLsbD_eq
  intro i hi
  rw [BitVec.getLsbD_and, BitVec.getLsbD_and, wr_255 i hi, BitVec.getLsbD_sshiftRight, BitVec.getLsbD_ushiftRight]
  by_cases h : i < 8
  · have h1 : k + i < 64 := by omega
    simp [h, h1, hi]
  · simp [h]
/-- the reference's byte -/
theorem wr_mod (w : Int64) {j : Nat} (hj : j < 8) : (w >>> ((wr_sh j).toInt64 &&& 63) &&& 255).toInt32 = nI (wr_b w j) := by
  obtain ⟨n, hn, rfl⟩ := wb_of w
  have e : lN n >>> ((wr_sh j).toInt64 &&& 63) &&& 255 = lN (wr_b (lN n) j) := by
    rw [wr_sh_nI j hj, wb_c _ (by omega)]
    apply wb_inj
    rw [Int64.toBitVec_and, Int64.toBitVec_shiftRight]
    show (lN n).toBitVec.sshiftRight' ((lN (56 - 8 * j)).toBitVec.smod 64) &&& 255#64 = _
    rw [wb_tb (56 - 8 * j), wb_sm _ (by omega)]
    show (lN n).toBitVec.sshiftRight (BitVec.ofNat 64 (56 - 8 * j)).toNat &&& 255#64 = _
    rw [BitVec.toNat_ofNat, Nat.mod_eq_of_lt (by omega), wr_sar _ (by omega)]
    apply BitVec.eq_of_toNat_eq
    rw [BitVec.toNat_and, BitVec.toNat_ushiftRight, Nat.shiftRight_eq_div_pow, wb_tn hn, wb_tn (Nat.lt_trans (wr_b_lt _ _) (by decide))]
    show n / 2 ^ (56 - 8 * j) &&& 2 ^ 8 - 1 = _
    rw [Nat.and_two_pow_sub_one_eq_mod]
    unfold wr_b
    rw [wb_tn hn]
  rw [e, lN_i]
/-- what a write answers when d letters stand there -/
def wr_ans (w : Int64) (d : Nat) : Prop := (∀ j, j < 8 → wr_good (wr_b w j)) ∧ d + wr_n w 8 ≤ 160
