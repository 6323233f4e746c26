/-! the real heap's cells that an abstract memory stands for -/
section WLD
variable (D : va_G) (ad : Nat → Nat) (cA : Nat → ClassId)
def am_fld (M : am_M) (k ci : Nat) (j : Nat) : Value := if am_isr ci j = true then .ref (ad (am_rf k j)) else .int (Int32.ofInt (M k j))
def am_fs (M : am_M) (k ci : Nat) : List Value := (List.range (am_nf ci)).map (am_fld ad M k ci)
def am_ln (k : Nat) : Nat := (am_len (fun _ _ => 0) k).toNat
def am_row (M : am_M) (k : Nat) : Nat → Int32 := fun j => Int32.ofInt (M k j)
def am_rrow (k : Nat) : Nat → Option Nat := fun j => some (ad (am_rf k j))
def am_cell (M : am_M) (k : Nat) : va_E :=
  if am_cls k = 9 ∨ am_cls k = 10 then .inl (cA (am_cls k), am_ln k, .inl (am_row M k))
  else if am_cls k = 11 ∨ am_cls k = 14 then .inl (cA (am_cls k), am_ln k, .inr (.inr (.inr (.inr (am_rrow ad k)))))
  else .inr (am_cls k, am_fs ad M k (am_cls k))
def am_ws (M : am_M) : va_W := (List.range 199).map (fun k => (ad k, am_cell ad cA M k))
def am_A : Nat → Prop := fun q => ∃ k, k < 199 ∧ q = ad k
theorem am_ws_get (M : am_M) {k : Nat} (h : k < 199) : (am_ws ad cA M)[k]? = some (ad k, am_cell ad cA M k) := by
  simp [am_ws, List.getElem?_map, List.getElem?_range h]
theorem am_ws_len (M : am_M) : (am_ws ad cA M).length = 199 := by simp [am_ws]
theorem am_own {a c : Nat} (h : am_cls a = c) (hc : c < 8 ∨ c = 9 ∨ c = 10 ∨ c = 11 ∨ c = 14) : a < 199 := by
  rcases Nat.lt_or_ge a 199 with h1 | h1
  · exact h1
  · exfalso
    have key : ∀ b, b < 256 → 199 ≤ b → am_cls b = 12 ∨ am_cls b = 15 := by decide +kernel
    rcases Nat.lt_or_ge a 256 with h2 | h2
    · rcases key a h2 h1 with h3 | h3 <;> omega
    · have e : am_cls a = (cond (Nat.ble a 299) 15 (cond (Nat.ble a 335) 8 (cond (Nat.ble a 399) 15 (cond (Nat.ble a 435) 13 15)))) := by
        unfold am_cls
        rw [show Nat.ble a 255 = false from by
          rw [← Bool.not_eq_true]; intro q; have := Nat.le_of_ble_eq_true q; omega]
        rfl
      rw [e] at h
      revert h
      cases Nat.ble a 299 <;> cases Nat.ble a 335 <;> cases Nat.ble a 399 <;> cases Nat.ble a 435 <;> simp only [cond] <;> omega
theorem am_ws_set {M M' : am_M} {k : Nat} (hk : k < 199) {e : va_E} (he : am_cell ad cA M' k = e) (ho : ∀ b, b ≠ k → am_cell ad cA M' b = am_cell ad cA M b) : (am_ws ad cA M).set k (ad k, e) = am_ws ad cA M' := by
  apply List.ext_getElem?
  intro j
  rw [List.getElem?_set, am_ws_len]
  by_cases hj : k = j
  · subst hj
    rw [if_pos rfl, if_pos hk, am_ws_get ad cA M' hk, he]
  · rw [if_neg hj]
    rcases Nat.lt_or_ge j 199 with h | h
    · rw [am_ws_get ad cA M h, am_ws_get ad cA M' h, ho j (fun q => hj q.symm)]
    · rw [List.getElem?_eq_none (by rw [am_ws_len]; exact h), List.getElem?_eq_none (by rw [am_ws_len]; exact h)]
theorem am_cell_other {M M' : am_M} {k : Nat} (h : ∀ b, b ≠ k → M' b = M b) : ∀ b, b ≠ k → am_cell ad cA M' b = am_cell ad cA M b := by
  intro b hb
  have hr : am_row M' b = am_row M b := by funext j; simp only [am_row, h b hb]
  have hg : am_fld ad M' b (am_cls b) = am_fld ad M b (am_cls b) := by funext j; simp only [am_fld, h b hb]
  have hf : am_fs ad M' b (am_cls b) = am_fs ad M b (am_cls b) := by simp only [am_fs, hg]
  simp only [am_cell, hr, hf]
theorem am_upd_other (M : am_M) (a : Nat) (i v : Int) : ∀ b, b ≠ a → am_upd M a i v b = M b := by
  intro b hb
  funext j
  simp [am_upd, hb]
theorem am_cpy_other (M : am_M) (a : Nat) (i : Int) (b : Nat) (j n : Int) : ∀ c, c ≠ b → am_cpy M a i b j n c = M c := by
  intro c hc
  funext k
  simp [am_cpy, hc]
/-- a field of an object is written -/
theorem am_set_f {M : am_M} {k ci j : Nat} {v : Int} (hk : am_cls k = ci) (hc : ci < 8) (hr : am_isr ci j = false) : (am_ws ad cA M).set k (ad k, .inr (ci, (am_fs ad M k ci).set j (.int (Int32.ofInt v)))) = am_ws ad cA (am_upd M k j v) := by
  refine am_ws_set ad cA (am_own hk (Or.inl hc)) ?_ (am_cell_other ad cA (am_upd_other M k j v))
  have h9 : ¬ (am_cls k = 9 ∨ am_cls k = 10) := by omega
  have h11 : ¬ (am_cls k = 11 ∨ am_cls k = 14) := by omega
  rw [am_cell, if_neg h9, if_neg h11, hk]
  congr 2
  apply List.ext_getElem?
  intro i
  simp only [am_fs, List.getElem?_set, List.getElem?_map, List.length_map, List.length_range]
  by_cases hi : i < am_nf ci
  · rw [List.getElem?_range hi]
    by_cases hj : j = i
    · subst hj
      simp [hi, am_fld, hr, am_upd]
    · have hj' : ¬ (i : Int) = (j : Int) := by omega
      simp [hj, am_fld, am_upd, hj']
  · rw [List.getElem?_eq_none (by simp; omega)]
    by_cases hj : j = i
    · subst hj
      simp [hi]
    · simp [hj]
/-- an element of a row is written -/
theorem am_set_r {M : am_M} {k c : Nat} {i v : Int} (hk : am_cls k = c) (hc : c = 9 ∨ c = 10) (hi : 0 ≤ i) : (am_ws ad cA M).set k (ad k, .inl (cA c, am_ln k, .inl (upd (am_row M k) i.toNat (Int32.ofInt v)))) = am_ws ad cA (am_upd M k i v) := by
  refine am_ws_set ad cA (am_own hk (by omega)) ?_ (am_cell_other ad cA (am_upd_other M k i v))
  rw [am_cell, if_pos (show am_cls k = 9 ∨ am_cls k = 10 from by omega), hk]
  congr 4
  funext j
  simp only [am_row, upd, am_upd]
  by_cases hj : j = i.toNat
  · rw [if_pos hj, if_pos ⟨trivial, by omega⟩]
  · rw [if_neg hj, if_neg (by omega)]
/-- a stretch of a row is copied -/
theorem am_set_c {M : am_M} {a k : Nat} {i j n : Int} (hk : am_cls k = 9) (hi : 0 ≤ i) (hj : 0 ≤ j) (hn : 0 ≤ n) : (am_ws ad cA M).set k (ad k, .inl (cA 9, am_ln k, .inl (va_cpy (am_row M a) (am_row M k) i.toNat j.toNat n.toNat))) = am_ws ad cA (am_cpy M a i k j n) := by
  refine am_ws_set ad cA (am_own hk (by omega)) ?_ (am_cell_other ad cA (am_cpy_other M a i k j n))
  rw [am_cell, if_pos (show am_cls k = 9 ∨ am_cls k = 10 from by omega), hk]
  congr 4
  funext q
  simp only [am_row, va_cpy, am_cpy]
  by_cases hq : j.toNat ≤ q ∧ q < j.toNat + n.toNat
  · rw [if_pos hq, if_pos ⟨trivial, by omega, by omega⟩]
    congr 2
    omega
  · rw [if_neg hq, if_neg (by omega)]
end WLD
