/-! numbers of the abstract machine and of the real one -/
theorem am_in_wrap (z : Int) : am_in (am_wrap z) := by
  unfold am_wrap
  constructor <;> omega
theorem am_toInt {x : Int} (h : am_in x) : (Int32.ofInt x).toInt = x := by
  rw [Int32.toInt_ofInt, Int.bmod_def]
  obtain ⟨h1, h2⟩ := h
  simp only [Int32.size]
  split <;> omega
theorem am_in_toInt (x : Int32) : am_in x.toInt := ⟨Int32.le_toInt x, Int32.toInt_lt x⟩
theorem am_ofInt_wrap (z : Int) : Int32.ofInt (am_wrap z) = Int32.ofInt z := by
  rw [← Int32.toInt_inj, Int32.toInt_ofInt, Int32.toInt_ofInt, Int.bmod_def, Int.bmod_def]
  unfold am_wrap
  simp only [Int32.size]
  split <;> split <;> omega
theorem am_eq {x y : Int} (hx : am_in x) (hy : am_in y) : Int32.ofInt x = Int32.ofInt y ↔ x = y := by
  rw [← Int32.toInt_inj, am_toInt hx, am_toInt hy]
theorem am_lt {x y : Int} (hx : am_in x) (hy : am_in y) : Int32.ofInt x < Int32.ofInt y ↔ x < y := by
  rw [Int32.lt_iff_toInt_lt, am_toInt hx, am_toInt hy]
theorem am_le {x y : Int} (hx : am_in x) (hy : am_in y) : Int32.ofInt x ≤ Int32.ofInt y ↔ x ≤ y := by
  rw [Int32.le_iff_toInt_le, am_toInt hx, am_toInt hy]
theorem am_eq0 {x : Int} (hx : am_in x) : Int32.ofInt x = 0 ↔ x = 0 := am_eq (y := 0) hx (by constructor <;> decide)
theorem am_lt0 {x : Int} (hx : am_in x) : Int32.ofInt x < 0 ↔ x < 0 := am_lt (y := 0) hx (by constructor <;> decide)
theorem am_0lt {x : Int} (hx : am_in x) : 0 < Int32.ofInt x ↔ 0 < x := am_lt (x := 0) (by constructor <;> decide) hx
theorem am_clamp {i : Int} (hi : am_in i) : (Int32.ofInt i).toNatClampNeg = i.toNat := by
  show (Int32.ofInt i).toInt.toNat = _
  rw [am_toInt hi]
theorem am_vin {i : Int} {n : Nat} (hi : am_in i) (h : 0 ≤ i ∧ i < n) : vp_in (Int32.ofInt i) n := by
  rw [vp_in_iff, am_toInt hi]; exact h
theorem am_int (x : Int32) : Int32.ofInt x.toInt = x := Int32.ofInt_toInt x
theorem am_e_add (x y : Int) : Int32.ofInt (am_wrap (x + y)) = Int32.ofInt x + Int32.ofInt y := by rw [am_ofInt_wrap, Int32.ofInt_add]
theorem am_e_mul (x y : Int) : Int32.ofInt (am_wrap (x * y)) = Int32.ofInt x * Int32.ofInt y := by rw [am_ofInt_wrap, Int32.ofInt_mul]
theorem am_e_sub (x y : Int) : Int32.ofInt (am_wrap (x - y)) = Int32.ofInt x - Int32.ofInt y := by rw [am_ofInt_wrap, Int32.ofInt_sub]
theorem am_e_neg (x : Int) : Int32.ofInt (am_wrap (-x)) = - Int32.ofInt x := by rw [am_ofInt_wrap, Int32.ofInt_neg]
theorem am_e_chr (x : Int) : Int32.ofInt (am_chr x) = ((Int32.ofInt x).toUInt32 % 65536).toInt32 := by
  rw [pk_char]
  show Int32.ofInt (x % 65536) = nI ((Int32.ofInt x).toBitVec.toNat % 65536)
  have h : ((Int32.ofInt x).toBitVec.toNat % 65536 : Nat) = (x % 65536).toNat := by
    rw [Int32.toBitVec_ofInt, BitVec.toNat_ofInt]
    omega
  rw [h]
  show Int32.ofInt (x % 65536) = nI (x % 65536).toNat
  rw [← Int32.toInt_inj, am_toInt (by constructor <;> omega), nI_toInt (by omega)]
  omega
theorem am_in_chr (x : Int) : am_in (am_chr x) := by
  unfold am_chr
  constructor <;> omega
