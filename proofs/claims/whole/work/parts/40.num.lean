-- NUMBERS: ints of the machine by whole numbers
def iI (z : Int) : Int32 := Int32.ofInt z
theorem i_nI (n : Nat) : nI n = iI (n : Int) := rfl
theorem i_lit (n : Nat) : (OfNat.ofNat n : Int32) = iI (OfNat.ofNat n : Int) := rfl
theorem i_add (a b : Int) : iI a + iI b = iI (a + b) := (Int32.ofInt_add a b).symm
theorem i_sub (a b : Int) : iI a - iI b = iI (a - b) := (Int32.ofInt_sub a b).symm
theorem i_mul (a b : Int) : iI a * iI b = iI (a * b) := (Int32.ofInt_mul a b).symm
theorem i_neg (a : Int) : - iI a = iI (-a) := (Int32.ofInt_neg a).symm
theorem i_toInt {a : Int} (h1 : -2147483648 ≤ a) (h2 : a < 2147483648) : (iI a).toInt = a := by
  unfold iI
  rw [Int32.toInt_ofInt]
  simp only [Int.bmod, show (Int32.size : Int) = 4294967296 from rfl]
  omega
theorem i_lt {a b : Int} (h1 : -2147483648 ≤ a) (h2 : a < 2147483648) (h3 : -2147483648 ≤ b) (h4 : b < 2147483648) : (iI a < iI b) = (a < b) := by
  rw [Int32.lt_iff_toInt_lt, i_toInt h1 h2, i_toInt h3 h4]
theorem i_le {a b : Int} (h1 : -2147483648 ≤ a) (h2 : a < 2147483648) (h3 : -2147483648 ≤ b) (h4 : b < 2147483648) : (iI a ≤ iI b) = (a ≤ b) := by
  rw [Int32.le_iff_toInt_le, i_toInt h1 h2, i_toInt h3 h4]
theorem i_eq {a b : Int} (h1 : -2147483648 ≤ a) (h2 : a < 2147483648) (h3 : -2147483648 ≤ b) (h4 : b < 2147483648) : (iI a = iI b) = (a = b) := by
  apply propext
  constructor
  · intro h
    have := congrArg Int32.toInt h
    rwa [i_toInt h1 h2, i_toInt h3 h4] at this
  · intro h
    rw [h]
theorem i_ite (c : Prop) [Decidable c] (a b : Int) : (if c then iI a else iI b) = iI (if c then a else b) := by
  split <;> rfl
theorem i_cl {a : Int} (h1 : 0 ≤ a) (h2 : a < 2147483648) : (iI a).toNatClampNeg = a.toNat := by
  have e : iI a = nI a.toNat := by rw [i_nI, Int.toNat_of_nonneg h1]
  rw [e, nI_clamp (by omega)]
theorem i_in {a : Int} {n : Nat} (h1 : 0 ≤ a) (h2 : a < n) (hn : n < 2147483648) : vp_in (iI a) n := by
  have e : iI a = nI a.toNat := by rw [i_nI, Int.toNat_of_nonneg h1]
  rw [e]
  exact vp_in_nI (by omega) (by omega)
theorem i_div {a b : Int} (h1 : 0 ≤ a) (h2 : a < 2147483648) (h3 : 0 < b) (h4 : b < 2147483648) : iI a / iI b = iI (a / b) := by
  have e : iI a = nI a.toNat := by rw [i_nI, Int.toNat_of_nonneg h1]
  have e2 : iI b = nI b.toNat := by rw [i_nI, Int.toNat_of_nonneg (by omega)]
  rw [e, e2, pk_div (by omega) (by omega) (by omega), i_nI]
  congr 1
  rw [Int.natCast_ediv, Int.toNat_of_nonneg h1, Int.toNat_of_nonneg (by omega)]
theorem i_rng (v : Int32) : ∃ z : Int, -2147483648 ≤ z ∧ z < 2147483648 ∧ v = iI z := by
  refine ⟨v.toInt, ?_, ?_, ?_⟩
  · have := Int32.le_toInt v
    simpa using this
  · have := Int32.toInt_lt v
    simpa using this
  · unfold iI
    rw [Int32.ofInt_toInt]
theorem i_less {a r : Nat} (ha : a ≤ 1000000) (hr : r ≤ 1000000) : (((nI a).toInt64 * ((1000000 : Int32) - nI r).toInt64) / (1000000 : Int64)).toInt32 = nI (a * (1000000 - r) / 1000000) := by
  have e1 : (1000000 : Int32) - nI r = nI (1000000 - r) := pk_sub (a := 1000000) hr
  have hb : a * (1000000 - r) ≤ 1000000 * 1000000 := Nat.mul_le_mul ha (Nat.sub_le _ _)
  rw [e1, nI_l (by omega), nI_l (by omega), lN_mul, show (1000000 : Int64) = lN 1000000 from rfl, pk_lDiv (by omega) (by omega) (by omega), lN_i]
theorem lgc_lt (a b : Int64) : (lg_cmp a b < 0) = (a < b) := by
  unfold lg_cmp
  apply propext
  have e := @Int64.toInt_inj a b
  simp only [Int64.lt_iff_toInt_lt, gt_iff_lt]
  by_cases h : b.toInt < a.toInt
  · simp only [if_pos h]
    constructor
    · intro q
      exact absurd q (by decide)
    · intro q
      omega
  · simp only [if_neg h]
    by_cases h2 : a = b
    · simp only [if_pos h2]
      subst h2
      constructor
      · intro q
        exact absurd q (by decide)
      · intro q
        omega
    · simp only [if_neg h2]
      have h3 : a.toInt ≠ b.toInt := fun q => h2 (e.mp q)
      constructor
      · intro q
        omega
      · intro q
        decide
theorem lgc_gt (a b : Int64) : (0 < lg_cmp a b) = (b < a) := by
  unfold lg_cmp
  apply propext
  simp only [Int64.lt_iff_toInt_lt, gt_iff_lt]
  by_cases h : b.toInt < a.toInt
  · simp only [if_pos h]
    constructor
    · intro q
      exact h
    · intro q
      decide
  · simp only [if_neg h]
    by_cases h2 : a = b
    · simp only [if_pos h2]
      constructor
      · intro q
        exact absurd q (by decide)
      · intro q
        exact absurd q h
    · simp only [if_neg h2]
      constructor
      · intro q
        exact absurd q (by decide)
      · intro q
        exact absurd q h
