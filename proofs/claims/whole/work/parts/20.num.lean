/-! Numbers: small ones as nI n, their bits. -/
def zb (x i : Nat) : Nat := x / 2 ^ i % 2
theorem zb_lt (x i : Nat) : zb x i < 2 := Nat.mod_lt _ (by decide)
theorem zb_01 (x i : Nat) : zb x i = 0 ∨ zb x i = 1 := by have := zb_lt x i; omega
theorem sl_n : ∀ n, n < 32 → ((nI n &&& 31).toBitVec.smod 32).toNat = n := by decide +kernel
theorem nI_shr {x i : Nat} (hx : x < 2 ^ 31) (hi : i < 32) : nI x >>> (nI i &&& 31) = nI (x / 2 ^ i) := pk_shrN hx _ i (sl_n i hi)
theorem nI_shl1 {i : Nat} (hi : i < 31) : (1 : Int32) <<< (nI i &&& 31) = nI (2 ^ i) := by
  have h : 1 * 2 ^ i < 2 ^ 32 := by rw [Nat.one_mul]; exact Nat.pow_lt_pow_right (by decide) (by omega)
  have := pk_shlN (n := 1) (nI i &&& 31) i (sl_n i (by omega)) h
  rw [Nat.one_mul] at this
  exact this
theorem nI_and1 {x : Nat} (hx : x < 2 ^ 32) : nI x &&& 1 = nI (x % 2) := pk_andN hx 1 (by decide +kernel)
theorem nI_and (a b : Nat) : nI a &&& nI b = nI (a &&& b) := by
  apply Int32.toBitVec_inj.1
  show BitVec.ofNat 32 a &&& BitVec.ofNat 32 b = BitVec.ofNat 32 (a &&& b)
  apply BitVec.eq_of_getLsbD_eq
  intro i hi
  simp [hi]
theorem nI_or (a b : Nat) : nI a ||| nI b = nI (a ||| b) := by
  apply Int32.toBitVec_inj.1
  show BitVec.ofNat 32 a ||| BitVec.ofNat 32 b = BitVec.ofNat 32 (a ||| b)
  apply BitVec.eq_of_getLsbD_eq
  intro i hi
  simp [hi]
theorem nI_xor (a b : Nat) : nI a ^^^ nI b = nI (a ^^^ b) := by
  apply Int32.toBitVec_inj.1
  show BitVec.ofNat 32 a ^^^ BitVec.ofNat 32 b = BitVec.ofNat 32 (a ^^^ b)
  apply BitVec.eq_of_getLsbD_eq
  intro i hi
  simp [hi]
theorem nI_bit {x i : Nat} (hx : x < 2 ^ 31) (hi : i < 32) : (nI x >>> (nI i &&& 31)) &&& 1 = nI (zb x i) := by
  rw [nI_shr hx hi, nI_and1 (Nat.lt_of_le_of_lt (Nat.div_le_self _ _) (by omega))]
  rfl
theorem nI_inj {a b : Nat} (ha : a < 2 ^ 31) (hb : b < 2 ^ 31) (h : nI a = nI b) : a = b := (nI_eq ha hb).mp h
/-- either one of the numbers from a to b, or none of them -/
theorem nI_rng (x : Int32) {a b : Nat} (hb : b < 2 ^ 31) : (∃ n, a ≤ n ∧ n ≤ b ∧ x = nI n) ∨ ∀ n, a ≤ n → n ≤ b → x ≠ nI n := by
  by_cases h : ∃ n, a ≤ n ∧ n ≤ b ∧ x = nI n
  · exact Or.inl h
  · exact Or.inr (fun n h1 h2 h3 => h ⟨n, h1, h2, h3⟩)
theorem nI_rng_lt {x : Int32} {a b : Nat} (ha : a < 2 ^ 31) (hb : b < 2 ^ 31) (h1 : ¬ x < nI a) (h2 : ¬ nI b < x) : ∃ n, a ≤ n ∧ n ≤ b ∧ x = nI n := by
  have e1 := Int32.not_lt.mp h1
  have e2 := Int32.not_lt.mp h2
  rw [Int32.le_iff_toInt_le, nI_toInt ha] at e1
  rw [Int32.le_iff_toInt_le, nI_toInt hb] at e2
  refine ⟨x.toInt.toNat, by omega, by omega, ?_⟩
  apply Int32.toInt_inj.mp
  rw [nI_toInt (by omega)]
  omega
theorem nI_rng_no {x : Int32} {a b : Nat} (ha : a < 2 ^ 31) (hb : b < 2 ^ 31) (h : x < nI a ∨ nI b < x) : ∀ n, a ≤ n → n ≤ b → x ≠ nI n := by
  intro n h1 h2 e
  subst e
  rcases h with h | h
  · rw [nI_ltI (by omega) (by omega)] at h; omega
  · rw [nI_ltI (by omega) (by omega)] at h; omega
theorem zca {c d : Bool} (h1 : c = true) (h2 : d = true) : (c && d) = true := by rw [h1, h2]; rfl
