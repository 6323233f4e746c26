-- needs: 02
/-! PURE: bits -/
def pTest (x : Int) (i : Nat) : Bool := (Int32.ofInt x).toBitVec.getLsbD i
theorem p_o32 (z : Int32) : Int32.ofInt z.toInt = z := Int32.ofInt_toInt z
theorem pT_or (x y : Int) (i : Nat) : pTest (am_ior x y) i = (pTest x i || pTest y i) := by
  unfold pTest am_ior
  rw [p_o32, Int32.toBitVec_or, BitVec.getLsbD_or]
theorem pT_and (x y : Int) (i : Nat) : pTest (am_iand x y) i = (pTest x i && pTest y i) := by
  unfold pTest am_iand
  rw [p_o32, Int32.toBitVec_and, BitVec.getLsbD_and]
theorem pT_xor (x y : Int) (i : Nat) : pTest (am_ixor x y) i = (pTest x i ^^ pTest y i) := by
  unfold pTest am_ixor
  rw [p_o32, Int32.toBitVec_xor, BitVec.getLsbD_xor]
theorem pT_m1 : ∀ i, i < 32 → pTest (-1) i = true := by decide +kernel
theorem pT_0 (i : Nat) : pTest 0 i = false := by
  unfold pTest
  rw [show (Int32.ofInt 0).toBitVec = 0#32 from rfl, BitVec.getLsbD_zero]
theorem pT_shl : ∀ k, k < 32 → ∀ i, i < 32 → pTest (am_ishl 1 (k : Nat)) i = decide (i = k) := by decide +kernel
theorem pT_eq {x y : Int} (hx : -2147483648 ≤ x ∧ x ≤ 2147483647) (hy : -2147483648 ≤ y ∧ y ≤ 2147483647) (h : ∀ i, i < 32 → pTest x i = pTest y i) : x = y := by
  have e : Int32.ofInt x = Int32.ofInt y := Int32.toBitVec.inj (BitVec.eq_of_getLsbD_eq (fun i hi => h i hi))
  have := congrArg Int32.toInt e
  rwa [Int32.toInt_ofInt_of_le (by omega) (by omega), Int32.toInt_ofInt_of_le (by omega) (by omega)] at this
theorem p_or_in (x y : Int) : -2147483648 ≤ am_ior x y ∧ am_ior x y ≤ 2147483647 := by
  have h1 := Int32.le_toInt (Int32.ofInt x ||| Int32.ofInt y)
  have h2 := Int32.toInt_lt (Int32.ofInt x ||| Int32.ofInt y)
  unfold am_ior
  omega
theorem p_and_in (x y : Int) : -2147483648 ≤ am_iand x y ∧ am_iand x y ≤ 2147483647 := by
  have h1 := Int32.le_toInt (Int32.ofInt x &&& Int32.ofInt y)
  have h2 := Int32.toInt_lt (Int32.ofInt x &&& Int32.ofInt y)
  unfold am_iand
  omega
theorem p_or0 {x : Int} (h : -2147483648 ≤ x ∧ x ≤ 2147483647) : am_ior x 0 = x := pT_eq (p_or_in _ _) h (fun i _ => by rw [pT_or, pT_0, Bool.or_false])
/-- of a number below 2^n no bit from n on -/
theorem pT_small {x : Int} {n i : Nat} (h0 : 0 ≤ x) (h : x < 2 ^ n) (hn : n ≤ i) : pTest x i = false := by
  unfold pTest
  by_cases h32 : 32 ≤ i
  · exact BitVec.getLsbD_of_ge _ _ h32
  have e : (Int32.ofInt x).toBitVec = BitVec.ofInt 32 x := rfl
  rw [e, BitVec.getLsbD, BitVec.toNat_ofInt]
  have h2 : (2 : Nat) ^ n ≤ 2 ^ i := Nat.pow_le_pow_right (by decide) hn
  have h3 : x.toNat < 2 ^ n := by
    have : ((x.toNat : Nat) : Int) < ((2 ^ n : Nat) : Int) := by
      rw [Int.toNat_of_nonneg h0, Int.natCast_pow]
      exact h
    exact Int.ofNat_lt.mp this
  refine Nat.testBit_lt_two_pow ?_
  refine Nat.lt_of_le_of_lt ?_ (Nat.lt_of_lt_of_le h3 h2)
  rw [show ((2 ^ 32 : Nat) : Int) = 4294967296 from by decide]
  omega
/-- x >> i & 1 -/
theorem pT_bit : ∀ i : Nat, i < 32 → ∀ x : Int, (am_iand (am_ishr x (i : Nat)) 1 = if pTest x i = true then 1 else 0) := by
  intro i hi x
  have h1 : pTest 1 0 = true := by decide
  have h2 : ∀ j, j < 32 → 0 < j → pTest 1 j = false := by decide +kernel
  have hs : pTest (am_ishr x (i : Nat)) 0 = pTest x i := by
    unfold pTest am_ishr
    rw [p_o32, Int32.toBitVec_shiftRight]
    have ha : ∀ i : Nat, i < 32 → ((Int32.ofInt (i : Nat) &&& 31).toBitVec.smod 32).toNat = i := by decide +kernel
    show ((Int32.ofInt x).toBitVec.sshiftRight ((Int32.ofInt (i : Nat) &&& 31).toBitVec.smod 32).toNat).getLsbD 0 = _
    rw [ha i hi, BitVec.getLsbD_sshiftRight]
    simp [hi]
  by_cases h : pTest x i = true
  · rw [if_pos h]
    refine pT_eq (p_and_in _ _) (by decide) (fun j hj => ?_)
    rw [pT_and]
    by_cases j0 : j = 0
    · rw [j0, hs, h]; rfl
    · rw [h2 j hj (by omega), Bool.and_false]
  · rw [if_neg h]
    refine pT_eq (p_and_in _ _) (by decide) (fun j hj => ?_)
    rw [pT_and, pT_0]
    by_cases j0 : j = 0
    · rw [j0, hs]; simp [h]
    · rw [h2 j hj (by omega), Bool.and_false]
