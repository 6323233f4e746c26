/-! PURE: text: the tokens -/
abbrev sLet (c : Int) : Bool := decide ((97 ≤ c ∧ c ≤ 122) ∨ (65 ≤ c ∧ c ≤ 90))
abbrev sDig (c : Int) : Bool := decide (48 ≤ c ∧ c ≤ 57)
abbrev sSig (c : Int) : Bool := decide ((40 ≤ c ∧ c ≤ 43) ∨ c = 45 ∨ c = 47 ∨ (59 ≤ c ∧ c ≤ 62))
theorem c163 (d : Nat) (c : Int) (M : am_M) : am_run (d + 1) 163 [.inl c] M = some (if sLet c = true then 1 else 0, M) := by
  rw [e163]
  by_cases a1 : c < 97
  · rw [if_pos a1]
    by_cases a2 : c < 65
    · rw [if_pos a2, if_neg (by simp; omega)]
    · rw [if_neg a2]
      by_cases a3 : 90 < c
      · rw [if_pos a3, if_neg (by simp; omega)]
      · rw [if_neg a3, if_pos (by simp; omega)]
  · rw [if_neg a1]
    by_cases a4 : 122 < c
    · rw [if_pos a4]
      by_cases a2 : c < 65
      · omega
      · rw [if_neg a2, if_pos (by omega), if_neg (by simp; omega)]
    · rw [if_neg a4, if_pos (by simp; omega)]
theorem c164 (d : Nat) (c : Int) (M : am_M) : am_run (d + 1) 164 [.inl c] M = some (if sDig c = true then 1 else 0, M) := by
  rw [e164]
  by_cases a1 : c < 48
  · rw [if_pos a1, if_neg (by simp; omega)]
  · rw [if_neg a1]
    by_cases a2 : 57 < c
    · rw [if_pos a2, if_neg (by simp; omega)]
    · rw [if_neg a2, if_pos (by simp; omega)]
theorem c165_6 (d : Nat) (c : Int) (M : am_M) (h : ¬ (40 ≤ c ∧ c ≤ 43)) : am_L d 165 6 [some (.inl c)] [] M = some (if sSig c = true then 1 else 0, M) := by
  rw [e165_6]
  by_cases a1 : c = 45
  · rw [if_pos a1, if_pos (by simp; omega)]
  · rw [if_neg a1]
    by_cases a2 : c = 47
    · rw [if_pos a2, if_pos (by simp; omega)]
    · rw [if_neg a2]
      by_cases a3 : c < 59
      · rw [if_pos a3, if_neg (by simp; omega)]
      · rw [if_neg a3]
        by_cases a4 : 62 < c
        · rw [if_pos a4, if_neg (by simp; omega)]
        · rw [if_neg a4, if_pos (by simp; omega)]
theorem c165 (d : Nat) (c : Int) (M : am_M) : am_run (d + 1) 165 [.inl c] M = some (if sSig c = true then 1 else 0, M) := by
  rw [e165]
  by_cases a1 : c < 40
  · rw [if_pos a1, c165_6 _ _ _ (by omega)]
  · rw [if_neg a1]
    by_cases a2 : 43 < c
    · rw [if_pos a2, c165_6 _ _ _ (by omega)]
    · rw [if_neg a2, if_pos (by simp; omega)]
def sAdd (M : am_M) (t k v p : Int) : am_M := p_st (p_st (p_st (p_st M 93 (p_up (M 93) t k)) 94 (p_up (M 94) t v)) 95 (p_up (M 95) t p)) 92 (p_up (M 92) 3 (t + 1))
theorem c162 (d : Nat) {M : am_M} {t : Int} (ht : M 92 3 = t) (h : 0 ≤ t ∧ t ≤ 400) (k v p : Int) : am_run (d + 1) 162 [.inr 92, .inl k, .inl v, .inl p] M = some (0, sAdd M t k v p) := by
  rw [e162, ht, if_neg (by omega), p_c (by omega)]
  simp only [p_upd]
  rw [p_st2 (show (92 : Nat) ≠ 93 by decide), ht, p_c (by omega)]
  rw [p_st2 (show (92 : Nat) ≠ 94 by decide), p_st2 (show (92 : Nat) ≠ 93 by decide), ht, p_c (by omega)]
  rw [p_st2 (show (92 : Nat) ≠ 95 by decide), p_st2 (show (92 : Nat) ≠ 94 by decide), p_st2 (show (92 : Nat) ≠ 93 by decide), ht, p_w (x := t + 1) (by omega) (by omega), p_st2 (show (94 : Nat) ≠ 93 by decide), p_st2 (show (95 : Nat) ≠ 94 by decide), p_st2 (show (95 : Nat) ≠ 93 by decide)]
  rfl
/-- where a run of such bytes ends -/
def sTo (P : Int → Bool) (f : Int → Int) (n : Int) : Nat → Int → Int
  | 0, i => i
  | k + 1, i => if i < n ∧ P (f i) = true then sTo P f n k (i + 1) else i
theorem sTo_in (P : Int → Bool) (f : Int → Int) (n : Int) : ∀ (k : Nat) (i : Int), i + k ≤ n → i ≤ sTo P f n k i ∧ sTo P f n k i ≤ n := by
  intro k
  induction k with
  | zero => intro i h; rw [sTo]; omega
  | succ k ih =>
    intro i h
    rw [sTo]
    by_cases q : i < n ∧ P (f i) = true
    · rw [if_pos q]
      have := ih (i + 1) (by omega)
      omega
    · rw [if_neg q]; omega
/-- the number of the digits -/
def sVal (f : Int → Int) : Nat → Int → Int → Int
  | 0, _, v => v
  | k + 1, i, v => sVal f k (i + 1) (v * 10 + f i - 48)
