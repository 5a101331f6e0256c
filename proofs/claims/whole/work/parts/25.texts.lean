/-! texts as frozen cells, or as the class's text constants -/
def TXz (cB : ClassId) (tl : va_W) (a : Nat) (tx : List Nat) : Prop := ∃ (v : Nat) (f : Nat → Int32), (a, Sum.inr (15, [Value.ref v, Value.int 0, Value.int 0, Value.int 0])) ∈ tl ∧ (v, Sum.inl (cB, tx.length, Sum.inl f)) ∈ tl ∧ (∀ i, i < tx.length → f i = sb_b (tx.getD i 0)) ∧ (∀ c ∈ tx, c < 128) ∧ tx.length ≤ 160
theorem TXz.mono {cB : ClassId} {tl tl' : va_W} {a : Nat} {tx : List Nat} (h : TXz cB tl a tx) (hs : ∀ q ∈ tl, q ∈ tl') : TXz cB tl' a tx := by
  obtain ⟨v, f, h1, h2, h3⟩ := h
  exact ⟨v, f, hs _ h1, hs _ h2, h3⟩
/-- the texts of the constants -/
def LTx : List (List Nat) := LByt.map (fun q => q.map (fun c => c.toNatClampNeg))
def TX (cB : ClassId) (aK : Nat → Nat) (tl : va_W) (a : Nat) (tx : List Nat) : Prop := TXz cB tl a tx ∨ ∃ i, i < 16 ∧ a = aK i ∧ tx = LTx.getD i []
theorem TX.mono {cB : ClassId} {aK : Nat → Nat} {tl tl' : va_W} {a : Nat} {tx : List Nat} (h : TX cB aK tl a tx) (hs : ∀ q ∈ tl, q ∈ tl') : TX cB aK tl' a tx := h.imp (fun h => h.mono hs) id
theorem lit_all : ∀ i, i < 16 → (∀ c ∈ LTx.getD i [], c < 128) ∧ (LTx.getD i []).length < 65536 ∧ LLen.getD i 0 = (LTx.getD i []).length ∧ ∀ j, j < (LTx.getD i []).length → (LByt.getD i []).getD j 0 = sb_b ((LTx.getD i []).getD j 0) := by decide +kernel
theorem TX.sv {em : Nat} {cB : ClassId} {aK aV : Nat → Nat} {A : Nat → Prop} {dC : Nat → ClassId} {dI : Nat → Nat → Nat} {tys : List (ClassId × FieldType)} {tl ws : va_W} {args : Array Value} {s : State} {H H0 : Heap} {a : Nat} {tx : List Nat} (h : TX cB aK tl a tx) (htb : ∀ w ∈ TBL, w.before args s = true) (hE : EX em aK aV A s H0) (hq : ∀ q : Nat, q < H0.size → ¬ A q → H[q]? = H0[q]?) (hK : va_K (dC, dI) vwCl tys s) (hP : va_P (dC, dI) vwCl ws H) (hs : ∀ q ∈ tl, q ∈ ws) (t0 : Nat) (ht : tys[t0]? = some (cB, .byte)) : ∃ v, SV s H a v tx := by
  rcases h with ⟨v, f, h1, h2, h3, h4, h5⟩ | ⟨i, hi, rfl, rfl⟩
  · obtain ⟨q0, he⟩ := List.getElem?_of_mem (hs _ h2)
    exact ⟨v, zz_SV htb hK hP (hs _ h1) (zz_BV hK hP q0 t0 he ht rfl (by omega) h4 h3)⟩
  · obtain ⟨g1, g2, g3, g4⟩ := lit_all i hi
    obtain ⟨k1, k2, k3, k4⟩ := ((hE.kept hq).lit.narrow (B := NA) (fun q h => h.elim)).1 i hi
    refine ⟨aV i, k1, k2, k3, ?_, g1, g2⟩
    rw [g3] at k4
    obtain ⟨cell, c1, c2, c3, c4, c5, c6, c7⟩ := k4
    exact ⟨cell, c1, c2, c3, c4, c5, fun j hj => (c6 j hj).trans (congrArg (fun z => some (Value.int z)) (g4 j hj)), c7⟩
/-- how many letters a reading takes: all, where it fails -/
def cns {α : Type} (R : List Nat) (o : Option (α × List Nat)) : Nat := match o with
  | some q => R.length - q.2.length
  | none => R.length
theorem qtd_lt {mk : Nat} : ∀ (n : Nat) (R : List Nat), R.length ≤ n → ∀ q, qtd mk R = some q → q.2.length < R.length
  | 0, R, hn, q, h => by
    cases R with
    | nil => simp [qtd] at h
    | cons c R => simp at hn
  | n + 1, [], hn, q, h => by simp [qtd] at h
  | n + 1, [c], hn, q, h => by
    simp only [qtd] at h
    split at h
    · cases h; simp
    · split at h
      · cases h
      · simp [qtd] at h
  | n + 1, c :: d :: R, hn, q, h => by
    simp only [List.length_cons] at hn
    rw [qtd] at h
    split at h
    · cases h; simp
    · split at h
      · split at h
        · rw [Option.map_eq_some_iff] at h
          obtain ⟨z, hz, rfl⟩ := h
          have := qtd_lt n R (by omega) z hz
          simp only [List.length_cons]; omega
        · cases h
      · rw [Option.map_eq_some_iff] at h
        obtain ⟨z, hz, rfl⟩ := h
        have := qtd_lt n (d :: R) (by simp only [List.length_cons]; omega) z hz
        simp only [List.length_cons] at this ⊢; omega
theorem cns_qtd {mk : Nat} {R0 R : List Nat} {tx : List Nat} (h : qtd mk R0 = (qtd mk R).map (fun q => (tx ++ q.1, q.2))) (hR : 0 < R.length) (hl : R.length ≤ R0.length) : R0.length + 1 ≤ cns R0 (qtd mk R0) + R.length := by
  cases hq : qtd mk R with
  | none => rw [h, hq]; simp [cns]; omega
  | some q =>
    have := qtd_lt _ R (Nat.le_refl _) q hq
    rw [h, hq]; simp [cns]; omega
theorem qtd_close {mk c : Nat} {R : List Nat} (h : c = mk) : qtd mk (c :: R) = some ([], R) := by
  cases R <;> simp [qtd, h]
theorem qtd_plain {mk c : Nat} {R : List Nat} (h2 : ¬ c = mk) (h3 : ¬ c = 92) : qtd mk (c :: R) = (qtd mk R).map (fun q => (c :: q.1, q.2)) := by
  cases R <;> simp [qtd, h2, h3]
theorem qtd_esc {mk c d : Nat} {R : List Nat} (h2 : ¬ c = mk) (h3 : c = 92) (h6 : d = mk ∨ d = 92 ∨ d = 47) : qtd mk (c :: d :: R) = (qtd mk R).map (fun q => (d :: q.1, q.2)) := by
  rw [qtd, if_neg h2, if_pos h3, if_pos h6]
theorem qtd_bad {mk c d : Nat} {R : List Nat} (h2 : ¬ c = mk) (h3 : c = 92) (h6 : ¬ (d = mk ∨ d = 92 ∨ d = 47)) : qtd mk (c :: d :: R) = none := by
  rw [qtd, if_neg h2, if_pos h3, if_neg h6]
theorem qtd_bad1 {mk c : Nat} (h2 : ¬ c = mk) (h3 : c = 92) : qtd mk [c] = none := by
  rw [qtd, if_neg h2, if_pos h3]
