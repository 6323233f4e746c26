/-! PURE: counts of bits; whom to ask; turns -/
theorem pN_and {a b : Nat} (ha : a < 2147483648) (hb : b < 2147483648) : am_iand a b = ((a &&& b : Nat) : Int) := by
  have h : a &&& b < 2147483648 := Nat.lt_of_le_of_lt Nat.and_le_left ha
  show BitVec.toInt (BitVec.ofInt 32 (a : Int) &&& BitVec.ofInt 32 (b : Int)) = _
  rw [BitVec.toInt_eq_toNat_cond, BitVec.toNat_and, BitVec.ofInt_natCast, BitVec.ofInt_natCast, BitVec.toNat_ofNat, BitVec.toNat_ofNat, Nat.mod_eq_of_lt (by omega), Nat.mod_eq_of_lt (by omega), if_pos (by omega)]
theorem pN_shr {a k : Nat} (ha : a < 2147483648) (hk : k < 32) : am_iushr a k = ((a >>> k : Nat) : Int) := by
  have hs : ∀ k : Nat, k < 32 → (((Int32.ofInt (k : Nat)).toUInt32 &&& Int32.toUInt32 31).toBitVec % 32).toNat = k := by decide +kernel
  have h : a >>> k ≤ a := Nat.shiftRight_le a k
  unfold am_iushr
  show BitVec.toInt ((BitVec.ofInt 32 (a : Int)) >>> (((Int32.ofInt (k : Nat)).toUInt32 &&& Int32.toUInt32 31).toBitVec % 32)) = _
  rw [BitVec.ushiftRight_eq', hs k hk, BitVec.toInt_eq_toNat_cond, BitVec.toNat_ushiftRight, BitVec.ofInt_natCast, BitVec.toNat_ofNat, Nat.mod_eq_of_lt (by omega), if_pos (by omega)]
def bN1 (x : Nat) : Nat := x - ((x >>> 1) &&& 1431655765)
def bN2 (p : Nat) : Nat := (p &&& 858993459) + ((p >>> 2) &&& 858993459)
def bN3 (q : Nat) : Nat := (q + (q >>> 4)) &&& 252645135
def bN4 (r : Nat) : Nat := ((r + (r >>> 8)) + ((r + (r >>> 8)) >>> 16)) &&& 63
def bN (x : Nat) : Nat := bN4 (bN3 (bN2 (bN1 x)))
theorem c255 (d : Nat) (M : am_M) {x : Nat} (hx : x < 65536) : am_run (d + 1) 255 [.inl x] M = some ((bN x : Int), M) := by
  have a1 : (x >>> 1) &&& 1431655765 ≤ x := Nat.le_trans Nat.and_le_left (Nat.shiftRight_le _ _)
  have s1 : x >>> 1 ≤ x := Nat.shiftRight_le _ _
  have e1 : am_wrap ((x : Int) - am_iand (am_iushr x 1) 1431655765) = ((bN1 x : Nat) : Int) := by
    have := pN_shr (a := x) (k := 1) (by omega) (by omega)
    rw [show ((1 : Nat) : Int) = 1 from rfl] at this
    have t := pN_and (a := x >>> 1) (b := 1431655765) (by omega) (by omega)
    rw [show ((1431655765 : Nat) : Int) = 1431655765 from rfl] at t
    rw [this, t, p_w (by omega) (by omega)]
    unfold bN1
    omega
  have b1 : bN1 x ≤ x := Nat.sub_le _ _
  have e2 : am_wrap (am_iand ((bN1 x : Nat) : Int) 858993459 + am_iand (am_iushr ((bN1 x : Nat) : Int) 2) 858993459) = ((bN2 (bN1 x) : Nat) : Int) := by
    generalize bN1 x = p at *
    have s2 : p >>> 2 ≤ p := Nat.shiftRight_le _ _
    have t1 := pN_shr (a := p) (k := 2) (by omega) (by omega)
    rw [show ((2 : Nat) : Int) = 2 from rfl] at t1
    have t2 := pN_and (a := p >>> 2) (b := 858993459) (by omega) (by omega)
    have t3 := pN_and (a := p) (b := 858993459) (by omega) (by omega)
    rw [show ((858993459 : Nat) : Int) = 858993459 from rfl] at t2 t3
    have u1 : p &&& 858993459 ≤ p := Nat.and_le_left
    have u2 : (p >>> 2) &&& 858993459 ≤ p >>> 2 := Nat.and_le_left
    rw [t1, t2, t3, p_w (by omega) (by omega)]
    unfold bN2
    omega
  have b2 : bN2 (bN1 x) ≤ 131072 := by
    generalize bN1 x = p at *
    have s2 : p >>> 2 ≤ p := Nat.shiftRight_le _ _
    have u1 : p &&& 858993459 ≤ p := Nat.and_le_left
    have u2 : (p >>> 2) &&& 858993459 ≤ p >>> 2 := Nat.and_le_left
    unfold bN2
    omega
  have e3 : am_iand (am_wrap (((bN2 (bN1 x) : Nat) : Int) + am_iushr ((bN2 (bN1 x) : Nat) : Int) 4)) 252645135 = ((bN3 (bN2 (bN1 x)) : Nat) : Int) := by
    generalize bN2 (bN1 x) = q at *
    have s2 : q >>> 4 ≤ q := Nat.shiftRight_le _ _
    have t1 := pN_shr (a := q) (k := 4) (by omega) (by omega)
    rw [show ((4 : Nat) : Int) = 4 from rfl] at t1
    have t2 := pN_and (a := q + (q >>> 4)) (b := 252645135) (by omega) (by omega)
    rw [show ((252645135 : Nat) : Int) = 252645135 from rfl] at t2
    rw [t1, p_w (by omega) (by omega), ← Int.natCast_add, t2]
    rfl
  have b3 : bN3 (bN2 (bN1 x)) ≤ 252645135 := Nat.and_le_right
  generalize hr : bN3 (bN2 (bN1 x)) = r at *
  have s8 : r >>> 8 ≤ r := Nat.shiftRight_le _ _
  have t8 := pN_shr (a := r) (k := 8) (by omega) (by omega)
  rw [show ((8 : Nat) : Int) = 8 from rfl] at t8
  have e4 : am_wrap ((r : Int) + am_iushr (r : Int) 8) = ((r + (r >>> 8) : Nat) : Int) := by
    rw [t8, p_w (by omega) (by omega)]
    omega
  have s16 : (r + (r >>> 8)) >>> 16 ≤ r + (r >>> 8) := Nat.shiftRight_le _ _
  have t16 := pN_shr (a := r + (r >>> 8)) (k := 16) (by omega) (by omega)
  rw [show ((16 : Nat) : Int) = 16 from rfl] at t16
  have t63 := pN_and (a := (r + (r >>> 8)) + ((r + (r >>> 8)) >>> 16)) (b := 63) (by omega) (by omega)
  rw [show ((63 : Nat) : Int) = 63 from rfl] at t63
  rw [e255, e1, e2, e3, e4, t16, p_w (by omega) (by omega), ← Int.natCast_add, t63]
  have : bN x = bN4 r := by rw [← hr]; rfl
  rw [this]
  rfl
theorem L_and (n : Nat) {u v m w : Nat} (hv : v < 2 ^ n) (hw : w < 2 ^ n) : (2 ^ n * u + v) &&& (2 ^ n * m + w) = 2 ^ n * (u &&& m) + (v &&& w) := by
  have hp : 0 < 2 ^ n := Nat.two_pow_pos n
  have h1 : (2 ^ n * u + v) / 2 ^ n = u := by rw [Nat.mul_add_div hp, Nat.div_eq_of_lt hv]; rfl
  have h2 : (2 ^ n * m + w) / 2 ^ n = m := by rw [Nat.mul_add_div hp, Nat.div_eq_of_lt hw]; rfl
  have h3 : (2 ^ n * u + v) % 2 ^ n = v := by rw [Nat.mul_add_mod, Nat.mod_eq_of_lt hv]
  have h4 : (2 ^ n * m + w) % 2 ^ n = w := by rw [Nat.mul_add_mod, Nat.mod_eq_of_lt hw]
  rw [← Nat.div_add_mod ((2 ^ n * u + v) &&& (2 ^ n * m + w)) (2 ^ n), Nat.and_div_two_pow, Nat.and_mod_two_pow, h1, h2, h3, h4]
/-- four digits to 16 -/
def D4 (a b c e : Nat) : Nat := 16 * (16 * (16 * e + c) + b) + a
theorem D4_and {a b c e a' b' c' e' k : Nat} (h : a < 16 ∧ b < 16 ∧ c < 16 ∧ e < 16) (h' : a' < 16 ∧ b' < 16 ∧ c' < 16 ∧ e' < 16) : D4 a b c e &&& (65536 * k + D4 a' b' c' e') = D4 (a &&& a') (b &&& b') (c &&& c') (e &&& e') := by
  unfold D4
  have r : 65536 * k + (16 * (16 * (16 * e' + c') + b') + a') = 2 ^ 4 * (2 ^ 4 * (2 ^ 4 * (2 ^ 4 * k + e') + c') + b') + a' := by omega
  have l : 16 * (16 * (16 * e + c) + b) + a = 2 ^ 4 * (2 ^ 4 * (2 ^ 4 * (2 ^ 4 * 0 + e) + c) + b) + a := by omega
  rw [r, l, L_and 4 (by omega) (by omega), L_and 4 (by omega) (by omega), L_and 4 (by omega) (by omega), L_and 4 (by omega) (by omega), Nat.zero_and]
  omega
def pop4 (a : Nat) : Nat := a % 2 + a / 2 % 2 + a / 4 % 2 + a / 8 % 2
theorem dig1 : ∀ a, a < 16 → ∀ b, b < 2 → (a / 2 + 8 * b) &&& 5 = (a / 2 &&& 5) ∧ (a / 2 &&& 5) ≤ a ∧ (a / 2 &&& 5) < 16 := by decide +kernel
def dg1 (a : Nat) : Nat := a - (a / 2 &&& 5)
theorem dig2 : ∀ a, a < 16 → dg1 a < 16 ∧ ∀ b, b < 4 → (dg1 a / 4 + 4 * b) &&& 3 = dg1 a / 4 &&& 3 := by decide +kernel
theorem dig3 : ∀ a, a < 16 → (dg1 a &&& 3) + (dg1 a / 4 &&& 3) = pop4 a ∧ pop4 a ≤ 4 ∧ (dg1 a &&& 3) < 16 ∧ (dg1 a / 4 &&& 3) < 16 := by decide +kernel
theorem and15 : ∀ a, a < 16 → a &&& 15 = a ∧ a &&& 0 = 0 := by decide +kernel
theorem bN_D4 {a b c e : Nat} (h : a < 16 ∧ b < 16 ∧ c < 16 ∧ e < 16) : bN (D4 a b c e) = pop4 a + pop4 b + pop4 c + pop4 e := by
  obtain ⟨ha, hb, hc, he⟩ := h
  have A1 := dig1 a ha (b % 2) (by omega)
  have B1 := dig1 b hb (c % 2) (by omega)
  have C1 := dig1 c hc (e % 2) (by omega)
  have E1 := dig1 e he 0 (by omega)
  have s1 : bN1 (D4 a b c e) = D4 (dg1 a) (dg1 b) (dg1 c) (dg1 e) := by
    unfold bN1
    have x1 : D4 a b c e >>> 1 = D4 (a / 2 + 8 * (b % 2)) (b / 2 + 8 * (c % 2)) (c / 2 + 8 * (e % 2)) (e / 2 + 8 * 0) := by
      rw [Nat.shiftRight_eq_div_pow]
      unfold D4
      omega
    rw [x1, show 1431655765 = 65536 * 21845 + D4 5 5 5 5 from rfl, D4_and (by omega) (by omega), A1.1, B1.1, C1.1, E1.1]
    unfold D4 dg1
    omega
  have A2 := dig2 a ha
  have B2 := dig2 b hb
  have C2 := dig2 c hc
  have E2 := dig2 e he
  have A3 := dig3 a ha
  have B3 := dig3 b hb
  have C3 := dig3 c hc
  have E3 := dig3 e he
  have s2 : bN2 (D4 (dg1 a) (dg1 b) (dg1 c) (dg1 e)) = D4 (pop4 a) (pop4 b) (pop4 c) (pop4 e) := by
    unfold bN2
    have x1 : D4 (dg1 a) (dg1 b) (dg1 c) (dg1 e) >>> 2 = D4 (dg1 a / 4 + 4 * (dg1 b % 4)) (dg1 b / 4 + 4 * (dg1 c % 4)) (dg1 c / 4 + 4 * (dg1 e % 4)) (dg1 e / 4 + 4 * 0) := by
      rw [Nat.shiftRight_eq_div_pow]
      unfold D4
      omega
    rw [x1, show 858993459 = 65536 * 13107 + D4 3 3 3 3 from rfl, D4_and (by omega) (by omega), D4_and (by omega) (by omega), A2.2 _ (by omega), B2.2 _ (by omega), C2.2 _ (by omega), E2.2 _ (by omega)]
    unfold D4
    omega
  have s3 : bN3 (D4 (pop4 a) (pop4 b) (pop4 c) (pop4 e)) = D4 (pop4 a + pop4 b) 0 (pop4 c + pop4 e) 0 := by
    unfold bN3
    have x1 : D4 (pop4 a) (pop4 b) (pop4 c) (pop4 e) + D4 (pop4 a) (pop4 b) (pop4 c) (pop4 e) >>> 4 = D4 (pop4 a + pop4 b) (pop4 b + pop4 c) (pop4 c + pop4 e) (pop4 e) := by
      rw [Nat.shiftRight_eq_div_pow]
      unfold D4
      omega
    rw [x1, show 252645135 = 65536 * 3855 + D4 15 0 15 0 from rfl, D4_and (by omega) (by omega), (and15 _ (by omega)).1, (and15 _ (by omega)).1, (and15 (pop4 b + pop4 c) (by omega)).2, (and15 (pop4 e) (by omega)).2]
  unfold bN
  rw [s1, s2, s3]
  unfold bN4
  rw [show 63 = 2 ^ 6 - 1 from rfl, Nat.and_two_pow_sub_one_eq_mod, Nat.shiftRight_eq_div_pow, Nat.shiftRight_eq_div_pow, show (2 : Nat) ^ 8 = 256 from rfl, show (2 : Nat) ^ 16 = 65536 from rfl, show (2 : Nat) ^ 6 = 64 from rfl]
  have z0 : D4 (pop4 a + pop4 b) 0 (pop4 c + pop4 e) 0 = 256 * (pop4 c + pop4 e) + (pop4 a + pop4 b) := by unfold D4; omega
  have z1 : pop4 a + pop4 b ≤ 8 ∧ pop4 c + pop4 e ≤ 8 := by omega
  rw [z0]
  generalize pop4 a + pop4 b = A at *
  have z2 : A + pop4 c + pop4 e = A + (pop4 c + pop4 e) := by omega
  rw [z2]
  generalize pop4 c + pop4 e = B at *
  clear A1 B1 C1 E1 A2 B2 C2 E2 A3 B3 C3 E3 s1 s2 s3 z0 z2
  have z3 : (256 * B + A) / 256 = B := by omega
  rw [z3]
  have z4 : (256 * B + A + B) / 65536 = 0 := by omega
  rw [z4]
  omega
/-- how many of 16 bits -/
def pPop (x : Int) : Int := pF (fun k n => if pTest x k.toNat = true then n + 1 else n) 16 0
theorem pTest_nat {x : Nat} (hx : x < 65536) (k : Nat) (hk : k < 16) : pTest (x : Int) k = decide (x / 2 ^ k % 2 = 1) := by
  unfold pTest
  have e : (Int32.ofInt (x : Int)).toBitVec = BitVec.ofNat 32 x := by
    show BitVec.ofInt 32 (x : Int) = _
    rw [BitVec.ofInt_natCast]
  rw [e, BitVec.getLsbD_ofNat, Nat.testBit_eq_decide_div_mod_eq]
  simp [show k < 32 by omega]
def bS (x : Nat) : Nat → Nat
  | 0 => 0
  | k + 1 => bS x k + x / 2 ^ k % 2
theorem pPop_S {x : Nat} (hx : x < 65536) : ∀ K : Nat, K ≤ 16 → pF (fun k n => if pTest (x : Int) k.toNat = true then n + 1 else n) K (0 : Int) = (bS x K : Int) := by
  intro K
  induction K with
  | zero => intro _; rfl
  | succ k ih =>
    intro hk
    rw [pF, ih (by omega), bS, Int.toNat_natCast, pTest_nat hx k (by omega)]
    by_cases q : x / 2 ^ k % 2 = 1
    · rw [if_pos (decide_eq_true q), q]; rfl
    · rw [if_neg (fun z => q (of_decide_eq_true z)), show x / 2 ^ k % 2 = 0 from by omega]; rfl
theorem bF0 (x : Nat) : x / 2 ^ 0 % 2 = x % 16 % 2 := by rw [show (2 : Nat) ^ 0 = 1 from rfl]; omega
theorem bF1 (x : Nat) : x / 2 ^ 1 % 2 = x % 16 / 2 % 2 := by rw [show (2 : Nat) ^ 1 = 2 from rfl]; omega
theorem bF2 (x : Nat) : x / 2 ^ 2 % 2 = x % 16 / 4 % 2 := by rw [show (2 : Nat) ^ 2 = 4 from rfl]; omega
theorem bF3 (x : Nat) : x / 2 ^ 3 % 2 = x % 16 / 8 % 2 := by rw [show (2 : Nat) ^ 3 = 8 from rfl]; omega
theorem bF4 (x : Nat) : x / 2 ^ 4 % 2 = x / 16 % 16 % 2 := by rw [show (2 : Nat) ^ 4 = 16 from rfl]; omega
theorem bF5 (x : Nat) : x / 2 ^ 5 % 2 = x / 16 % 16 / 2 % 2 := by rw [show (2 : Nat) ^ 5 = 32 from rfl]; omega
theorem bF6 (x : Nat) : x / 2 ^ 6 % 2 = x / 16 % 16 / 4 % 2 := by rw [show (2 : Nat) ^ 6 = 64 from rfl]; omega
theorem bF7 (x : Nat) : x / 2 ^ 7 % 2 = x / 16 % 16 / 8 % 2 := by rw [show (2 : Nat) ^ 7 = 128 from rfl]; omega
theorem bF8 (x : Nat) : x / 2 ^ 8 % 2 = x / 256 % 16 % 2 := by rw [show (2 : Nat) ^ 8 = 256 from rfl]; omega
theorem bF9 (x : Nat) : x / 2 ^ 9 % 2 = x / 256 % 16 / 2 % 2 := by rw [show (2 : Nat) ^ 9 = 512 from rfl]; omega
theorem bF10 (x : Nat) : x / 2 ^ 10 % 2 = x / 256 % 16 / 4 % 2 := by rw [show (2 : Nat) ^ 10 = 1024 from rfl]; omega
theorem bF11 (x : Nat) : x / 2 ^ 11 % 2 = x / 256 % 16 / 8 % 2 := by rw [show (2 : Nat) ^ 11 = 2048 from rfl]; omega
theorem bF12 (x : Nat) : x / 2 ^ 12 % 2 = x / 4096 % 2 := by rw [show (2 : Nat) ^ 12 = 4096 from rfl]
theorem bF13 (x : Nat) : x / 2 ^ 13 % 2 = x / 4096 / 2 % 2 := by rw [show (2 : Nat) ^ 13 = 8192 from rfl]; omega
theorem bF14 (x : Nat) : x / 2 ^ 14 % 2 = x / 4096 / 4 % 2 := by rw [show (2 : Nat) ^ 14 = 16384 from rfl]; omega
theorem bF15 (x : Nat) : x / 2 ^ 15 % 2 = x / 4096 / 8 % 2 := by rw [show (2 : Nat) ^ 15 = 32768 from rfl]; omega
theorem bN_pop {x : Nat} (hx : x < 65536) : (bN x : Int) = pPop x := by
  have e : x = D4 (x % 16) (x / 16 % 16) (x / 256 % 16) (x / 4096) := by unfold D4; omega
  have h := bN_D4 (a := x % 16) (b := x / 16 % 16) (c := x / 256 % 16) (e := x / 4096) (by omega)
  rw [← e] at h
  have h2 := pPop_S hx 16 (by omega)
  have h3 : bS x 16 = pop4 (x % 16) + pop4 (x / 16 % 16) + pop4 (x / 256 % 16) + pop4 (x / 4096) := by
    simp only [bS, pop4, bF0, bF1, bF2, bF3, bF4, bF5, bF6, bF7, bF8, bF9, bF10, bF11, bF12, bF13, bF14, bF15, Nat.zero_add, Nat.add_assoc]
  unfold pPop
  rw [h, ← h3]
  exact h2.symm
theorem c255p (d : Nat) (M : am_M) {x : Int} (h0 : 0 ≤ x) (hx : x < 65536) : am_run (d + 1) 255 [.inl x] M = some (pPop x, M) := by
  have := c255 d M (x := x.toNat) (by omega)
  rwa [bN_pop (by omega), show ((x.toNat : Nat) : Int) = x from by omega] at this
theorem c255r (d : Nat) (M : am_M) (x : Int) : ∃ r, am_run (d + 1) 255 [.inl x] M = some (r, M) := ⟨_, e255 d x M⟩
