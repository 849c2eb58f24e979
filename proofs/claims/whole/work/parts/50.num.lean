/-! NUMBERS: sets of small numbers as bits, in Nat; what the machine's words do to them -/
theorem nu_tb (n : Nat) : (nI n).toBitVec = BitVec.ofNat 32 n := rfl
theorem nu_inj {a b : Int32} (h : a.toBitVec = b.toBitVec) : a = b := Int32.toBitVec_inj.mp h
theorem nu_or (a b : Nat) : nI a ||| nI b = nI (a ||| b) := by
  apply nu_inj
  rw [Int32.toBitVec_or, nu_tb, nu_tb, nu_tb]
  apply BitVec.eq_of_getLsbD_eq
  intro i hi
  simp [BitVec.getLsbD_or, hi]
theorem nu_and (a b : Nat) : nI a &&& nI b = nI (a &&& b) := by
  apply nu_inj
  rw [Int32.toBitVec_and, nu_tb, nu_tb, nu_tb]
  apply BitVec.eq_of_getLsbD_eq
  intro i hi
  simp [BitVec.getLsbD_and, hi]
theorem nu_xor (a b : Nat) : nI a ^^^ nI b = nI (a ^^^ b) := by
  apply nu_inj
  rw [Int32.toBitVec_xor, nu_tb, nu_tb, nu_tb]
  apply BitVec.eq_of_getLsbD_eq
  intro i hi
  simp [BitVec.getLsbD_xor, hi]
/-- a without b -/
def nu_dif (a b : Nat) : Nat := a ^^^ (a &&& b)
theorem nu_dif_bit (a b i : Nat) : (nu_dif a b).testBit i = (a.testBit i && !b.testBit i) := by
  unfold nu_dif
  rw [Nat.testBit_xor, Nat.testBit_and]
  cases a.testBit i <;> cases b.testBit i <;> rfl
theorem nu_andn (a b : Nat) : nI a &&& (nI b ^^^ (-1)) = nI (nu_dif a b) := by
  apply nu_inj
  rw [Int32.toBitVec_and, Int32.toBitVec_xor, nu_tb, nu_tb, nu_tb]
  apply BitVec.eq_of_getLsbD_eq
  intro i hi
  have e : (-1 : Int32).toBitVec = BitVec.allOnes 32 := by decide
  rw [e]
  simp only [BitVec.getLsbD_and, BitVec.getLsbD_xor, BitVec.getLsbD_ofNat, hi, BitVec.getLsbD_allOnes, decide_true, Bool.true_and, nu_dif_bit]
  cases a.testBit i <;> cases b.testBit i <;> rfl
theorem nu_shl : ∀ i, i < 31 → (1 : Int32) <<< (nI i &&& 31) = nI (2 ^ i) := by decide +kernel
theorem nu_sm : ∀ i, i < 32 → ((nI i &&& 31).toBitVec.smod 32).toNat = i := by decide +kernel
theorem nu_shr {a i : Nat} (ha : a < 2 ^ 31) (hi : i < 32) : nI a >>> (nI i &&& 31) = nI (a / 2 ^ i) := pk_shrN ha _ i (nu_sm i hi)
theorem nu_a1 {a : Nat} (ha : a < 2 ^ 32) : nI a &&& 1 = nI (a % 2) := pk_andN ha 1 (by decide)
theorem nu_bit {a i : Nat} (ha : a < 2 ^ 31) (hi : i < 32) : (nI a >>> (nI i &&& 31)) &&& 1 = nI (if a.testBit i then 1 else 0) := by
  rw [nu_shr ha hi, nu_a1 (Nat.lt_of_le_of_lt (Nat.div_le_self _ _) (by omega)), Nat.testBit_eq_decide_div_mod_eq]
  rcases Nat.mod_two_eq_zero_or_one (a / 2 ^ i) with h | h <;> simp [h]
theorem nu_has {a i : Nat} (ha : a < 2 ^ 31) (hi : i < 32) : (nI a >>> (nI i &&& 31)) &&& 1 = 0 ↔ a.testBit i = false := by
  rw [nu_bit ha hi]
  cases a.testBit i <;> simp [nI]
theorem nu_lt_or {a b k : Nat} (ha : a < 2 ^ k) (hb : b < 2 ^ k) : a ||| b < 2 ^ k := Nat.or_lt_two_pow ha hb
theorem nu_lt_xor {a b k : Nat} (ha : a < 2 ^ k) (hb : b < 2 ^ k) : a ^^^ b < 2 ^ k := Nat.xor_lt_two_pow ha hb
theorem nu_lt_and {a b k : Nat} (ha : a < 2 ^ k) : a &&& b < 2 ^ k := Nat.lt_of_le_of_lt Nat.and_le_left ha
theorem nu_lt_dif {a b k : Nat} (ha : a < 2 ^ k) : nu_dif a b < 2 ^ k := nu_lt_xor ha (nu_lt_and ha)
theorem nu_lt_pow {i k : Nat} (h : i < k) : 2 ^ i < 2 ^ k := Nat.pow_lt_pow_right (by omega) h
/-- the set of the numbers below n that p holds of -/
def nu_bm (p : Nat → Bool) : Nat → Nat
  | 0 => 0
  | n + 1 => nu_bm p n ||| (if p n then 2 ^ n else 0)
theorem nu_bm_lt (p : Nat → Bool) : ∀ n, nu_bm p n < 2 ^ n
  | 0 => by simp [nu_bm]
  | n + 1 => by
    unfold nu_bm
    have h1 := nu_bm_lt p n
    have h2 : 2 ^ n < 2 ^ (n + 1) := nu_lt_pow (by omega)
    refine nu_lt_or (by omega) ?_
    split <;> omega
theorem nu_bm_bit (p : Nat → Bool) (i : Nat) : ∀ n, (nu_bm p n).testBit i = (decide (i < n) && p i)
  | 0 => by simp [nu_bm]
  | n + 1 => by
    unfold nu_bm
    rw [Nat.testBit_or, nu_bm_bit p i n]
    by_cases h : i = n
    · subst h
      cases hp : p i <;> simp
    · have e : (if p n = true then 2 ^ n else 0).testBit i = false := by
        split
        · rw [Nat.testBit_two_pow]
          simp [Ne.symm h]
        · simp
      rw [e, Bool.or_false]
      by_cases h2 : i < n
      · simp [h2, show i < n + 1 by omega]
      · simp [h2, show ¬ i < n + 1 by omega]
theorem nu_ext {a b k : Nat} (ha : a < 2 ^ k) (hb : b < 2 ^ k) (h : ∀ i, i < k → a.testBit i = b.testBit i) : a = b := by
  apply Nat.eq_of_testBit_eq
  intro i
  by_cases hi : i < k
  · exact h i hi
  · have h1 : 2 ^ k ≤ 2 ^ i := Nat.pow_le_pow_right (by omega) (by omega)
    rw [Nat.testBit_lt_two_pow (by omega), Nat.testBit_lt_two_pow (by omega)]
theorem nu_z {i : Nat} (h : i < 2 ^ 31) : nI i = 0 ↔ i = 0 := by
  rw [← nI_0, nI_eq h (by omega)]
/-- small whole numbers of either sign -/
def iI (z : Int) : Int32 := Int32.ofInt z
theorem iI_toInt {z : Int} (h1 : -2147483648 ≤ z) (h2 : z < 2147483648) : (iI z).toInt = z := Int32.toInt_ofInt_of_le (by simpa using h1) (by simpa using h2)
theorem iI_add (a b : Int) : iI a + iI b = iI (a + b) := (Int32.ofInt_add a b).symm
theorem iI_sub (a b : Int) : iI a - iI b = iI (a - b) := (Int32.ofInt_sub a b).symm
theorem iI_neg (a : Int) : - iI a = iI (-a) := (Int32.ofInt_neg a).symm
theorem iI_nI (n : Nat) : nI n = iI (n : Int) := by
  unfold nI iI
  exact (Int32.ofInt_eq_ofNat).symm
theorem iI_0 : iI 0 = 0 := rfl
theorem iI_eq {a b : Int} (ha : -2147483648 ≤ a) (ha2 : a < 2147483648) (hb : -2147483648 ≤ b) (hb2 : b < 2147483648) : iI a = iI b ↔ a = b := by
  rw [← Int32.toInt_inj, iI_toInt ha ha2, iI_toInt hb hb2]
theorem iI_lt {a b : Int} (ha : -2147483648 ≤ a) (ha2 : a < 2147483648) (hb : -2147483648 ≤ b) (hb2 : b < 2147483648) : iI a < iI b ↔ a < b := by
  rw [Int32.lt_iff_toInt_lt, iI_toInt ha ha2, iI_toInt hb hb2]
theorem iI_le {a b : Int} (ha : -2147483648 ≤ a) (ha2 : a < 2147483648) (hb : -2147483648 ≤ b) (hb2 : b < 2147483648) : iI a ≤ iI b ↔ a ≤ b := by
  rw [Int32.le_iff_toInt_le, iI_toInt ha ha2, iI_toInt hb hb2]
