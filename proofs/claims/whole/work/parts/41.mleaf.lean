-- needs: 02 03 04 05 06 07 08 40
/-! PURE: the model's leaves -/
theorem p_i0 {c : Prop} [Decidable c] {α : Type} (x y : α) : (if (if c then (1 : Int) else 0) = 0 then x else y) = if c then y else x := by
  by_cases h : c <;> simp [h]
theorem p_i1 {c : Prop} [Decidable c] {α : Type} (x y : α) : (if (if c then (1 : Int) else 0) = 1 then x else y) = if c then x else y := by
  by_cases h : c <;> simp [h]
theorem p_bi {c : Prop} [Decidable c] (x y : am_R) (f : Int → am_M → am_R) : am_bnd (if c then x else y) f = if c then am_bnd x f else am_bnd y f := by
  by_cases h : c <;> simp [h]
theorem p_bool {c : Prop} [Decidable c] {x : am_R} : am_chk ((if c then (1 : Int) else 0) = 0 ∨ (if c then (1 : Int) else 0) = 1) x = x := by
  by_cases h : c <;> simp [h, am_chk]
theorem m0 (d : Nat) (v a b : Int) (M : am_M) : am_run (d + 1) 0 [.inl v, .inl a, .inl b] M = some (if a ≤ v ∧ v ≤ b then 1 else 0, M) := by
  rw [e0]
  by_cases h1 : v < a
  · simp (disch := omega) only [p_b, p_c, p_w, p_upd, p_st1, p_st2, p_st3, p_up1, p_up2, p_up3, p_i0, p_i1, p_bi, if_pos, if_neg, if_true, if_false, Bool.false_eq_true]
  · by_cases h2 : b < v
    · simp (disch := omega) only [p_b, p_c, p_w, p_upd, p_st1, p_st2, p_st3, p_up1, p_up2, p_up3, p_i0, p_i1, p_bi, if_pos, if_neg, if_true, if_false, Bool.false_eq_true]
    · simp (disch := omega) only [p_b, p_c, p_w, p_upd, p_st1, p_st2, p_st3, p_up1, p_up2, p_up3, p_i0, p_i1, p_bi, if_pos, if_neg, if_true, if_false, Bool.false_eq_true]
theorem m1 (d : Nat) (a b : Int) (M : am_M) : am_run (d + 1) 1 [.inl a, .inl b] M = some (min a b, M) := by
  rw [e1]
  by_cases h : a < b
  · simp (disch := omega) only [p_b, p_c, p_w, p_upd, p_st1, p_st2, p_st3, p_up1, p_up2, p_up3, p_i0, p_i1, p_bi, if_pos, if_neg, if_true, if_false, Bool.false_eq_true]
    rw [show min a b = a from by omega]
  · simp (disch := omega) only [p_b, p_c, p_w, p_upd, p_st1, p_st2, p_st3, p_up1, p_up2, p_up3, p_i0, p_i1, p_bi, if_pos, if_neg, if_true, if_false, Bool.false_eq_true]
    rw [show min a b = b from by omega]
theorem m2 (d : Nat) (a b : Int) (M : am_M) : am_run (d + 1) 2 [.inl a, .inl b] M = some (max a b, M) := by
  rw [e2]
  by_cases h : b < a
  · simp (disch := omega) only [p_b, p_c, p_w, p_upd, p_st1, p_st2, p_st3, p_up1, p_up2, p_up3, p_i0, p_i1, p_bi, if_pos, if_neg, if_true, if_false, Bool.false_eq_true]
    rw [show max a b = a from by omega]
  · simp (disch := omega) only [p_b, p_c, p_w, p_upd, p_st1, p_st2, p_st3, p_up1, p_up2, p_up3, p_i0, p_i1, p_bi, if_pos, if_neg, if_true, if_false, Bool.false_eq_true]
    rw [show max a b = b from by omega]
/-- the model's cells -/
def pW (M : am_M) : Int → Int := M 187
def pp (w : Int → Int) (p f : Int) : Int := w (4 + 4 * p + f)
def ph (w : Int → Int) (h f : Int) : Int := w (36 + 10 * h + f)
def pl (w : Int → Int) (i f : Int) : Int := w (196 + 5 * i + f)
theorem m3 (d : Nat) (p f : Int) (M : am_M) (hp : 0 ≤ p ∧ p < 8) (hf : 0 ≤ f ∧ f < 4) : am_run (d + 1) 3 [.inr 186, .inl p, .inl f] M = some (pp (M 187) p f, M) := by
  rw [e3]
  simp (disch := omega) only [p_b, p_c, p_w, p_upd, p_st1, p_st2, p_st3, p_up1, p_up2, p_up3, p_i0, p_i1, p_bi, if_pos, if_neg, if_true, if_false, Bool.false_eq_true, pp]
theorem m4 (d : Nat) (p f v : Int) (M : am_M) (hp : 0 ≤ p ∧ p < 8) (hf : 0 ≤ f ∧ f < 4) : am_run (d + 1) 4 [.inr 186, .inl p, .inl f, .inl v] M = some (0, p_st M 187 (p_up (M 187) (4 + 4 * p + f) v)) := by
  rw [e4]
  simp (disch := omega) only [p_b, p_c, p_w, p_upd, p_st1, p_st2, p_st3, p_up1, p_up2, p_up3, p_i0, p_i1, p_bi, if_pos, if_neg, if_true, if_false, Bool.false_eq_true]
theorem m5 (d : Nat) (h f : Int) (M : am_M) (hp : 0 ≤ h ∧ h < 16) (hf : 0 ≤ f ∧ f < 10) : am_run (d + 1) 5 [.inr 186, .inl h, .inl f] M = some (ph (M 187) h f, M) := by
  rw [e5]
  simp (disch := omega) only [p_b, p_c, p_w, p_upd, p_st1, p_st2, p_st3, p_up1, p_up2, p_up3, p_i0, p_i1, p_bi, if_pos, if_neg, if_true, if_false, Bool.false_eq_true, ph]
theorem m6 (d : Nat) (h f v : Int) (M : am_M) (hp : 0 ≤ h ∧ h < 16) (hf : 0 ≤ f ∧ f < 10) : am_run (d + 1) 6 [.inr 186, .inl h, .inl f, .inl v] M = some (0, p_st M 187 (p_up (M 187) (36 + 10 * h + f) v)) := by
  rw [e6]
  simp (disch := omega) only [p_b, p_c, p_w, p_upd, p_st1, p_st2, p_st3, p_up1, p_up2, p_up3, p_i0, p_i1, p_bi, if_pos, if_neg, if_true, if_false, Bool.false_eq_true]
theorem m7 (d : Nat) (i f : Int) (M : am_M) (hp : 0 ≤ i ∧ i < 16) (hf : 0 ≤ f ∧ f < 5) : am_run (d + 1) 7 [.inr 186, .inl i, .inl f] M = some (pl (M 187) i f, M) := by
  rw [e7]
  simp (disch := omega) only [p_b, p_c, p_w, p_upd, p_st1, p_st2, p_st3, p_up1, p_up2, p_up3, p_i0, p_i1, p_bi, if_pos, if_neg, if_true, if_false, Bool.false_eq_true, pl]
theorem m8 (d : Nat) (p : Int) (M : am_M) (hn : 0 ≤ M 187 276 ∧ M 187 276 ≤ 8) : am_run (d + 2) 8 [.inr 186, .inl p] M = some (if 0 ≤ p ∧ p ≤ M 187 276 - 1 then 1 else 0, M) := by
  rw [e8]
  simp (disch := omega) only [p_b, p_c, p_w, p_upd, p_st1, p_st2, p_st3, p_up1, p_up2, p_up3, p_i0, p_i1, p_bi, if_pos, if_neg, if_true, if_false, Bool.false_eq_true, m0, p_bool]
theorem m9 (d : Nat) (h : Int) (M : am_M) (hn : 0 ≤ M 187 276 ∧ M 187 276 ≤ 8) : am_run (d + 2) 9 [.inr 186, .inl h] M = some (if 0 ≤ h ∧ h ≤ 2 * M 187 276 - 1 then 1 else 0, M) := by
  rw [e9]
  simp (disch := omega) only [p_b, p_c, p_w, p_upd, p_st1, p_st2, p_st3, p_up1, p_up2, p_up3, p_i0, p_i1, p_bi, if_pos, if_neg, if_true, if_false, Bool.false_eq_true, m0, p_bool]
theorem m10 (d : Nat) (k : Int) (M : am_M) : am_run (d + 2) 10 [.inl k] M = some (if 0 ≤ k ∧ k ≤ 3 then 1 else 0, M) := by
  rw [e10]
  simp (disch := omega) only [p_b, p_c, p_w, p_upd, p_st1, p_st2, p_st3, p_up1, p_up2, p_up3, p_i0, p_i1, p_bi, if_pos, if_neg, if_true, if_false, Bool.false_eq_true, m0, p_bool]
theorem m11 (d : Nat) (k : Int) (M : am_M) : am_run (d + 2) 11 [.inl k] M = some (if 0 ≤ k ∧ k ≤ 1 then 1 else 0, M) := by
  rw [e11]
  simp (disch := omega) only [p_b, p_c, p_w, p_upd, p_st1, p_st2, p_st3, p_up1, p_up2, p_up3, p_i0, p_i1, p_bi, if_pos, if_neg, if_true, if_false, Bool.false_eq_true, m0, p_bool]
def pOn (w : Int → Int) (p s : Int) : Int := p_find (fun h => decide (ph w h 8 = p)) 2 (w 276).toNat s
theorem m12_2 (d : Nat) (p s : Int) (M : am_M) (hn : 0 ≤ M 187 276 ∧ M 187 276 ≤ 8) (hs : 0 ≤ s ∧ s ≤ 1) : ∀ (k : Nat) (i : Int), k ≤ M 187 276 → i = s + 2 * (M 187 276 - k) → am_L (d + 1) 12 2 [some (.inr 186), some (.inl p), some (.inl s), some (.inl i)] [] M = some (p_find (fun h => decide (ph (M 187) h 8 = p)) 2 k i, M) := by
  intro k
  induction k with
  | zero =>
    intro i hk hi
    rw [e12_2]
    simp (disch := omega) only [p_b, p_c, p_w, p_upd, p_st1, p_st2, p_st3, p_up1, p_up2, p_up3, p_i0, p_i1, p_bi, if_pos, if_neg, if_true, if_false, Bool.false_eq_true, p_find]
  | succ k ih =>
    intro i hk hi
    rw [e12_2]
    simp (disch := omega) only [p_b, p_c, p_w, p_upd, p_st1, p_st2, p_st3, p_up1, p_up2, p_up3, p_i0, p_i1, p_bi, if_pos, if_neg, if_true, if_false, Bool.false_eq_true, m5, p_find]
    by_cases h : ph (M 187) i 8 = p
    · simp (disch := omega) only [p_b, p_c, p_w, p_upd, p_st1, p_st2, p_st3, p_up1, p_up2, p_up3, p_i0, p_i1, p_bi, if_pos, if_neg, if_true, if_false, Bool.false_eq_true, h, decide_true]
    · simp (disch := omega) only [p_b, p_c, p_w, p_upd, p_st1, p_st2, p_st3, p_up1, p_up2, p_up3, p_i0, p_i1, p_bi, if_pos, if_neg, if_true, if_false, Bool.false_eq_true, h, decide_false]
      exact ih (i + 2) (by omega) (by omega)
theorem m12 (d : Nat) (p s : Int) (M : am_M) (hn : 0 ≤ M 187 276 ∧ M 187 276 ≤ 8) (hs : 0 ≤ s ∧ s ≤ 1) : am_run (d + 2) 12 [.inr 186, .inl p, .inl s] M = some (pOn (M 187) p s, M) := by
  rw [e12]
  exact m12_2 d p s M hn hs (M 187 276).toNat s (by omega) (by omega)
theorem m13 (d : Nat) (h : Int) (M : am_M) (hh : 0 ≤ h ∧ h < 16) : am_run (d + 1) 13 [.inl h] M = some (h / 2, M) := by
  rw [e13]
  simp (disch := omega) only [p_b, p_c, p_w, p_upd, p_st1, p_st2, p_st3, p_up1, p_up2, p_up3, p_i0, p_i1, p_bi, if_pos, if_neg, if_true, if_false, Bool.false_eq_true, p_div2]
theorem m14 (d : Nat) (M : am_M) : am_run (d + 1) 14 [.inr 186] M = some (0, p_st M 186 (p_up (M 186) 4 0)) := by
  rw [e14]
  simp (disch := omega) only [p_b, p_c, p_w, p_upd, p_st1, p_st2, p_st3, p_up1, p_up2, p_up3, p_i0, p_i1, p_bi, if_pos, if_neg, if_true, if_false, Bool.false_eq_true]
theorem m15 (d : Nat) (v : Int) (M : am_M) : am_run (d + 2) 15 [.inr 186, .inl v] M = some (M 187 3, p_st (p_st M 186 (p_up (M 186) 4 0)) 187 (p_up (M 187) 3 v)) := by
  rw [e15]
  simp (disch := omega) only [p_b, p_c, p_w, p_upd, p_st1, p_st2, p_st3, p_up1, p_up2, p_up3, p_i0, p_i1, p_bi, if_pos, if_neg, if_true, if_false, Bool.false_eq_true, m14, p_st2, p_st4]
