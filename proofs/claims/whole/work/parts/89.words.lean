/-! PURE: text: the words -/
def pStr : List (List Int) := [[108, 101, 102, 116, 32, 98, 101, 115, 116, 32, 119, 111, 114, 110, 32, 115, 99, 97, 114, 115, 32, 104, 111, 117, 114, 115, 32, 112, 114, 105, 99, 101, 32, 99, 111, 105, 110, 32, 99, 104, 105, 108, 100, 32, 111, 119, 110, 32, 99, 104, 97, 105, 110, 32, 115, 107, 105, 108, 108, 32, 104, 101, 108, 100, 32, 107, 105, 110, 100, 32, 104, 111, 117, 114, 32, 119, 104, 101, 110, 32, 111, 114, 32, 97, 110, 100, 32, 110, 111, 116, 32, 109, 97, 121, 32, 98, 97, 114, 32, 108, 101, 97, 114, 110, 32, 119, 101, 97, 114, 32, 115, 99, 97, 114, 32, 112, 97, 121, 32, 104, 97, 110, 100, 32, 104, 101, 97, 100, 32, 98, 111, 116, 104, 32, 110, 111, 110, 101, 32, 108, 101, 110, 100, 32, 116, 111, 32, 97, 116, 32, 102, 111, 114, 32, 119, 111, 114, 107, 32, 110, 101, 101, 100, 115, 32, 112, 97, 121, 115],
  [108, 101, 110, 100],
  [116, 111],
  [97, 116],
  [102, 111, 114],
  [112, 114, 105, 99, 101],
  [119, 111, 114, 107],
  [110, 101, 101, 100, 115],
  [112, 97, 121, 115],
  [98, 111, 116, 104],
  [119, 104, 101, 110],
  [111, 114],
  [97, 110, 100],
  [110, 111, 116],
  [109, 97, 121],
  [98, 97, 114],
  [98, 101, 115, 116],
  [119, 111, 114, 110],
  [104, 111, 117, 114, 115],
  [99, 111, 105, 110],
  [99, 104, 97, 105, 110],
  [108, 101, 102, 116],
  [115, 99, 97, 114, 115],
  [99, 104, 105, 108, 100],
  [111, 119, 110],
  [108, 101, 97, 114, 110],
  [119, 101, 97, 114],
  [115, 99, 97, 114],
  [112, 97, 121],
  [115, 107, 105, 108, 108],
  [104, 101, 108, 100],
  [107, 105, 110, 100],
  [104, 111, 117, 114],
  [104, 97, 110, 100],
  [104, 101, 97, 100],
  [110, 111, 110, 101]]
def sByt (i : Nat) : List Int := pStr.getD i []
/-- what of C the texts use -/
def pKons (C : am_M) : Prop := ∀ i, i < 36 → C (300 + i) 0 = 0 ∧ ∀ j, 0 ≤ j → C (400 + i) j = (sByt i).getD j.toNat 0
theorem s_cls : ∀ i : Nat, i < 36 → am_cls (300 + i) = 8 ∧ am_rf (300 + i) 0 = 400 + i ∧ am_cls (400 + i) = 13 := by decide +kernel
theorem s_len0 : ∀ i : Nat, i < 36 → am_len (fun _ _ => 0) (400 + i) = ((sByt i).length : Int) := by decide +kernel
theorem s_len {i : Nat} (h : i < 36) (M : am_M) : am_len M (400 + i) = ((sByt i).length : Int) := by
  rw [← s_len0 i h]
  unfold am_len
  have e : Nat.beq (400 + i) 203 = false := by
    cases q : Nat.beq (400 + i) 203 with
    | false => rfl
    | true => have := Nat.eq_of_beq_eq_true q; omega
  rw [e]
  rfl
theorem s_shr : ∀ n : Nat, n < 400 → am_ishr ((n : Nat) : Int) 0 = n := by decide +kernel
theorem s_small : ∀ i : Nat, i < 36 → (sByt i).length < 400 ∧ ∀ j : Nat, j < (sByt i).length → am_chr (am_iand ((sByt i).getD j 0) 255) = (sByt i).getD j 0 ∧ 0 ≤ (sByt i).getD j 0 ∧ (sByt i).getD j 0 < 65536 := by decide +kernel
theorem c256 (d : Nat) {i : Nat} (h : i < 36) {M : am_M} (hM : M (300 + i) 0 = 0) : am_run (d + 2) 256 [.inr (300 + i)] M = some (((sByt i).length : Int), M) := by
  obtain ⟨h1, h2, h3⟩ := s_cls i h
  have e8 : Nat.beq 8 8 = true := rfl
  have e9 : (Nat.ble 9 13 && Nat.blt 13 15) = true := rfl
  rw [e256, h1, h2, h3, e258, h1, hM]
  simp only [e8, e9, cond_true]
  rw [if_neg (by decide), p_c (by decide), p_b, s_len h, s_shr _ (s_small i h).1]
theorem c257 (d : Nat) {i : Nat} (h : i < 36) {M : am_M} (hM : M (300 + i) 0 = 0 ∧ ∀ j, 0 ≤ j → M (400 + i) j = (sByt i).getD j.toNat 0) {j : Int} (hj : 0 ≤ j ∧ j < (sByt i).length) : am_run (d + 4) 257 [.inr (300 + i), .inl j] M = some ((sByt i).getD j.toNat 0, M) := by
  obtain ⟨h1, h2, h3⟩ := s_cls i h
  have e8 : Nat.beq 8 8 = true := rfl
  have e9 : (Nat.ble 9 13 && Nat.blt 13 15) = true := rfl
  have e13 : Nat.beq 13 13 = true := rfl
  obtain ⟨k1, k2, k3⟩ := (s_small i h).2 j.toNat (by omega)
  rw [e257, h1, h2, e259, h1, hM.1]
  simp only [e8, cond_true]
  rw [if_neg (by decide), if_pos trivial, p_b, if_neg (by decide), e261, h3]
  simp only [e9, e13, cond_true]
  rw [e260, e262, s_len h, if_neg (by omega), if_pos hj.2, p_b, p_b, s_len h, p_c hj, hM.2 j hj.1, k1, p_c ⟨k2, k3⟩, p_b, p_c ⟨k2, k3⟩]
