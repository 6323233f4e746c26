-- needs: 02 03 04 05 06 07 08 40 41
/-! PURE: the model's hands and loans -/
def pBest (w : Int → Int) (h : Int) : Int := max (max (max (max 0 (ph w h 0)) (ph w h 1)) (ph w h 2)) (ph w h 3)
theorem m59 (d : Nat) (h : Int) (M : am_M) (hh : 0 ≤ h ∧ h < 16) : am_run (d + 2) 59 [.inr 186, .inl h] M = some (pBest (M 187) h, M) := by
  rw [e59, e59_4]
  simp (disch := omega) only [p_b, p_c, p_w, p_upd, p_st1, p_st2, p_st3, p_up1, p_up2, p_up3, p_i0, p_i1, p_bi, if_pos, if_neg, if_true, if_false, Bool.false_eq_true, m5, m2]
  rw [e59_4]
  simp (disch := omega) only [p_b, p_c, p_w, p_upd, p_st1, p_st2, p_st3, p_up1, p_up2, p_up3, p_i0, p_i1, p_bi, if_pos, if_neg, if_true, if_false, Bool.false_eq_true, m5, m2]
  rw [e59_4]
  simp (disch := omega) only [p_b, p_c, p_w, p_upd, p_st1, p_st2, p_st3, p_up1, p_up2, p_up3, p_i0, p_i1, p_bi, if_pos, if_neg, if_true, if_false, Bool.false_eq_true, m5, m2]
  rw [e59_4]
  simp (disch := omega) only [p_b, p_c, p_w, p_upd, p_st1, p_st2, p_st3, p_up1, p_up2, p_up3, p_i0, p_i1, p_bi, if_pos, if_neg, if_true, if_false, Bool.false_eq_true, m5, m2]
  rw [e59_4]
  simp (disch := omega) only [p_b, p_c, p_w, p_upd, p_st1, p_st2, p_st3, p_up1, p_up2, p_up3, p_i0, p_i1, p_bi, if_pos, if_neg, if_true, if_false, Bool.false_eq_true, m5, m2]
  rfl
def pCnt (P : Int → Bool) : Nat → Int → Int → Int
  | 0, _, n => n
  | k + 1, i, n => pCnt P k (i + 1) (if P i = true then n + 1 else n)
theorem pCnt_le (P : Int → Bool) : ∀ (k : Nat) (i n : Int), n ≤ pCnt P k i n ∧ pCnt P k i n ≤ n + k := by
  intro k
  induction k with
  | zero => intro i n; simp [pCnt]
  | succ k ih =>
    intro i n
    rw [pCnt]
    by_cases h : P i = true
    · have := ih (i + 1) (n + 1)
      rw [if_pos h]
      omega
    · have := ih (i + 1) n
      rw [if_neg h]
      omega
def pLoans (w : Int → Int) (h : Int) : Int := pCnt (fun i => decide (pl w i 0 = h)) (w 1).toNat 0 0
theorem m60_4 (d : Nat) (h : Int) (M : am_M) (hn : 0 ≤ M 187 1 ∧ M 187 1 ≤ 16) : ∀ (k : Nat) (i n : Int), i = M 187 1 - k → 0 ≤ i → 0 ≤ n → n ≤ i → am_L (d + 1) 60 4 [some (.inr 186), some (.inl h), some (.inl n), some (.inl i)] [] M = some (pCnt (fun i => decide (pl (M 187) i 0 = h)) k i n, M) := by
  intro k
  induction k with
  | zero =>
    intro i n hi h0 h1 h2
    rw [e60_4]
    simp (disch := omega) only [p_b, p_c, p_w, p_upd, p_st1, p_st2, p_st3, p_up1, p_up2, p_up3, p_i0, p_i1, p_bi, if_pos, if_neg, if_true, if_false, Bool.false_eq_true, pCnt]
  | succ k ih =>
    intro i n hi h0 h1 h2
    rw [e60_4]
    simp (disch := omega) only [p_b, p_c, p_w, p_upd, p_st1, p_st2, p_st3, p_up1, p_up2, p_up3, p_i0, p_i1, p_bi, if_pos, if_neg, if_true, if_false, Bool.false_eq_true, m7, pCnt]
    by_cases hc : pl (M 187) i 0 = h
    · simp (disch := omega) only [p_b, p_c, p_w, p_upd, p_st1, p_st2, p_st3, p_up1, p_up2, p_up3, p_i0, p_i1, p_bi, if_pos, if_neg, if_true, if_false, Bool.false_eq_true, hc, decide_true]
      exact ih (i + 1) (n + 1) (by omega) (by omega) (by omega) (by omega)
    · simp (disch := omega) only [p_b, p_c, p_w, p_upd, p_st1, p_st2, p_st3, p_up1, p_up2, p_up3, p_i0, p_i1, p_bi, if_pos, if_neg, if_true, if_false, Bool.false_eq_true, hc, decide_false, Bool.false_eq_true, Int.add_zero]
      exact ih (i + 1) n (by omega) (by omega) (by omega) (by omega)
theorem m60 (d : Nat) (h : Int) (M : am_M) (hn : 0 ≤ M 187 1 ∧ M 187 1 ≤ 16) : am_run (d + 2) 60 [.inr 186, .inl h] M = some (pLoans (M 187) h, M) := by
  rw [e60]
  exact m60_4 d h M hn (M 187 1).toNat 0 0 (by omega) (by omega) (by omega) (by omega)
def pLatest (w : Int → Int) (h : Int) : Int := p_find (fun i => decide (pl w i 0 = h)) (-1) (w 1).toNat (w 1 - 1)
theorem m61_7 (d : Nat) (h : Int) (M : am_M) : ∀ (k : Nat) (i : Int), k ≤ 16 → i = k - 1 → am_L (d + 1) 61 7 [some (.inr 186), some (.inl h), some (.inl i)] [] M = some (p_find (fun i => decide (pl (M 187) i 0 = h)) (-1) k i, M) := by
  intro k
  induction k with
  | zero =>
    intro i hk hi
    rw [e61_7]
    simp (disch := omega) only [p_b, p_c, p_w, p_upd, p_st1, p_st2, p_st3, p_up1, p_up2, p_up3, p_i0, p_i1, p_bi, if_pos, if_neg, if_true, if_false, Bool.false_eq_true, p_find]
  | succ k ih =>
    intro i hk hi
    rw [e61_7]
    simp (disch := omega) only [p_b, p_c, p_w, p_upd, p_st1, p_st2, p_st3, p_up1, p_up2, p_up3, p_i0, p_i1, p_bi, if_pos, if_neg, if_true, if_false, Bool.false_eq_true, m7, p_find]
    by_cases hc : pl (M 187) i 0 = h
    · simp (disch := omega) only [p_b, p_c, p_w, p_upd, p_st1, p_st2, p_st3, p_up1, p_up2, p_up3, p_i0, p_i1, p_bi, if_pos, if_neg, if_true, if_false, Bool.false_eq_true, hc, decide_true]
    · simp (disch := omega) only [p_b, p_c, p_w, p_upd, p_st1, p_st2, p_st3, p_up1, p_up2, p_up3, p_i0, p_i1, p_bi, if_pos, if_neg, if_true, if_false, Bool.false_eq_true, hc, decide_false]
      exact ih (i + -1) (by omega) (by omega)
theorem m61 (d : Nat) (h : Int) (M : am_M) (hn : 0 ≤ M 187 1 ∧ M 187 1 ≤ 16) : am_run (d + 2) 61 [.inr 186, .inl h] M = some (pLatest (M 187) h, M) := by
  rw [e61]
  simp (disch := omega) only [p_b, p_c, p_w, p_upd, p_st1, p_st2, p_st3, p_up1, p_up2, p_up3, p_i0, p_i1, p_bi, if_pos, if_neg, if_true, if_false, Bool.false_eq_true]
  exact m61_7 d h M (M 187 1).toNat (M 187 1 - 1) (by omega) (by omega)
/-- what handFacts lays -/
def pHF (w : Int → Int) (h p : Int) (f : Int → Int) : Int → Int := p_up (p_up (p_up (p_up (p_up (p_up (p_up f 1 (1 - h % 2)) 2 (pBest w h)) 3 (ph w h 4)) 4 (ph w h 5)) 12 (ph w h 7)) 9 (if h / 2 = p then 1 else 0)) 8 (w (277 + p))
theorem m62 (d : Nat) (h p : Int) (M : am_M) (hh : 0 ≤ h ∧ h < 16) (hp : 0 ≤ p ∧ p < 8) : am_run (d + 3) 62 [.inr 186, .inl h, .inl p] M = some (0, p_st M 196 (pHF (M 187) h p (M 196))) := by
  rw [e62]
  simp (disch := omega) only [p_b, p_c, p_w, p_upd, p_st1, p_st2, p_st3, p_up1, p_up2, p_up3, p_i0, p_i1, p_bi, if_pos, if_neg, if_true, if_false, Bool.false_eq_true, p_rem2, m59, m5, m13, p_st2]
  by_cases hc : h / 2 = p
  · simp (disch := omega) only [p_b, p_c, p_w, p_upd, p_st1, p_st2, p_st3, p_up1, p_up2, p_up3, p_i0, p_i1, p_bi, if_pos, if_neg, if_true, if_false, Bool.false_eq_true, hc, p_st2, pHF]
  · simp (disch := omega) only [p_b, p_c, p_w, p_upd, p_st1, p_st2, p_st3, p_up1, p_up2, p_up3, p_i0, p_i1, p_bi, if_pos, if_neg, if_true, if_false, Bool.false_eq_true, hc, p_st2, pHF]
def pGoes (w : Int → Int) (h p : Int) : Int → Int := p_up (p_up w (36 + 10 * h + 8) p) (36 + 10 * h + 7) 0
theorem m66 (d : Nat) (h p : Int) (M : am_M) (hh : 0 ≤ h ∧ h < 16) : am_run (d + 2) 66 [.inr 186, .inl h, .inl p] M = some (0, p_st M 187 (pGoes (M 187) h p)) := by
  rw [e66]
  simp (disch := omega) only [p_b, p_c, p_w, p_upd, p_st1, p_st2, p_st3, p_up1, p_up2, p_up3, p_i0, p_i1, p_bi, if_pos, if_neg, if_true, if_false, Bool.false_eq_true, m6, pGoes]
theorem m67 (d : Nat) (n price : Int) (M : am_M) : am_run (d + 2) 67 [.inl n, .inl price] M = some (if (1 ≤ n ∧ n ≤ 99) ∧ 0 ≤ price ∧ price ≤ 99 then 1 else 0, M) := by
  rw [e67]
  simp (disch := omega) only [p_b, p_c, p_w, p_upd, p_st1, p_st2, p_st3, p_up1, p_up2, p_up3, p_i0, p_i1, p_bi, if_pos, if_neg, if_true, if_false, Bool.false_eq_true, m0]
  by_cases h1 : 1 ≤ n ∧ n ≤ 99
  · by_cases h2 : 0 ≤ price ∧ price ≤ 99
    · simp (disch := omega) only [p_b, p_c, p_w, p_upd, p_st1, p_st2, p_st3, p_up1, p_up2, p_up3, p_i0, p_i1, p_bi, if_pos, if_neg, if_true, if_false, Bool.false_eq_true]
    · simp (disch := omega) only [p_b, p_c, p_w, p_upd, p_st1, p_st2, p_st3, p_up1, p_up2, p_up3, p_i0, p_i1, p_bi, if_pos, if_neg, if_true, if_false, Bool.false_eq_true]
  · simp (disch := omega) only [p_b, p_c, p_w, p_upd, p_st1, p_st2, p_st3, p_up1, p_up2, p_up3, p_i0, p_i1, p_bi, if_pos, if_neg, if_true, if_false, Bool.false_eq_true]
def pEarns (w : Int → Int) (p v : Int) : Int → Int := p_up w (4 + 4 * p + 0) (min 9999 (pp w p 0 + v))
theorem m69 (d : Nat) (p v : Int) (M : am_M) (hp : 0 ≤ p ∧ p < 8) (hc : 0 ≤ pp (M 187) p 0 ∧ pp (M 187) p 0 ≤ 9999) (hv : -99999 ≤ v ∧ v ≤ 99999) : am_run (d + 2) 69 [.inr 186, .inl p, .inl v] M = some (0, p_st M 187 (pEarns (M 187) p v)) := by
  rw [e69]
  simp (disch := omega) only [p_b, p_c, p_w, p_upd, p_st1, p_st2, p_st3, p_up1, p_up2, p_up3, p_i0, p_i1, p_bi, if_pos, if_neg, if_true, if_false, Bool.false_eq_true, m3, m1, m4, pEarns]
theorem m76 (d : Nat) (p : Int) (M : am_M) (hp : 0 ≤ p ∧ p < 8) : am_run (d + 2) 76 [.inr 186, .inl p] M = some (0, p_st M 187 (p_up (M 187) (4 + 4 * p + 2) (am_wrap (pp (M 187) p 2 + 1)))) := by
  rw [e76]
  simp (disch := omega) only [m3, m4, p_b]
