/-! PURE: questions of the cells alone -/
theorem ho1 : IsW 1 := Or.inl rfl
theorem Pair_e {C M : am_M} {j jm : Nat} {args : List am_V} {v : Int} (hI : Inv C M) (hc : am_run 1000 j (.inr 0 :: args) M = some (v, M)) (hm : am_run 1000 jm (.inr 186 :: args) M = some (v, M)) : Pair C M j jm args := ⟨v, M, hc, v, M, hm, rfl, hI⟩
theorem q_fault {C M : am_M} (hI : Inv C M) (a : Int) : Pair C M 188 53 [.inl a] := by
  have hI' := hI
  obtain ⟨-, -, -, -, ⟨e1, e2⟩, -, -⟩ := hI'
  refine Pair_e (v := if a = 0 then M 186 23 else if a = 1 then M 186 25 else -1) hI ?_ ?_
  · rw [e188, e1, e2]
    by_cases h0 : a = 0
    · rw [if_pos h0, if_pos h0]
    · rw [if_neg h0, if_neg h0]
      by_cases h1 : a = 1
      · rw [if_pos h1, if_pos h1]
      · rw [if_neg h1, if_neg h1]
  · rw [e53]
    by_cases h0 : a = 0
    · rw [if_pos h0, if_pos h0]
    · rw [if_neg h0, if_neg h0]
      by_cases h1 : a = 1
      · rw [if_pos h1, if_pos h1]
      · rw [if_neg h1, if_neg h1]
theorem c252 (d : Nat) {M : am_M} {w : Int → Int} (hR : WR M 1 w) (hn : 0 ≤ w 276 ∧ w 276 ≤ 8) (p s : Int) : am_run (d + 2) 252 [.inr 0, .inl p, .inl s] M = some (if (0 ≤ p ∧ p ≤ w 276 - 1) ∧ 0 ≤ s ∧ s ≤ 1 then pOn w p s else -1, M) := by
  rw [e252, c134 _ ho1 hR, p_b, p_i0]
  by_cases h1 : 0 ≤ p ∧ p ≤ w 276 - 1
  · rw [if_pos h1, c253, p_b, p_i0]
    by_cases h2 : 0 ≤ s ∧ s ≤ 1
    · have e : M 6 (2 * p + s) = pOn w p s := R_on hR h1.1 (by omega) h2.1 h2.2
      rw [if_pos h2, p_w (x := 2 * p) (by omega) (by omega), p_w (by omega) (by omega), p_c (by omega), e, if_pos ⟨h1, h2⟩]
    · rw [if_neg h2, if_neg (fun q => h2 q.2)]
  · rw [if_neg h1, if_neg (fun q => h1 q.1)]
/-- the rings of who has whose -/
def pRg (w : Int → Int) (p s : Int) : Nat → Int → Int → Int
  | 0, _, _ => 0
  | k + 1, a, n => if pOn w a s = -1 then 0 else if pOn w a s / 2 = p then n else pRg w p s k (pOn w a s / 2) (n + 1)
theorem c201_4 (d : Nat) {M : am_M} {w : Int → Int} (hR : WR M 1 w) (hn : 0 ≤ w 276 ∧ w 276 ≤ 8) (p s : Int) (hs : 0 ≤ s ∧ s ≤ 1) : ∀ (k : Nat) (a n : Int) (o5 : Option am_V), n = 9 - k → 0 ≤ n → 0 ≤ a → a < w 276 → am_L (d + 2) 201 4 [some (.inr 0), some (.inl p), some (.inl s), some (.inl a), some (.inl n), o5] [] M = some (pRg w p s k a n, M) := by
  intro k
  induction k with
  | zero =>
    intro a n o5 h1 h2 h3 h4
    rw [e201_4, if_pos (by omega)]
    rfl
  | succ k ih =>
    intro a n o5 h1 h2 h3 h4
    have hr := pOn_range (w := w) (p := a) hs hn.1
    have e252 : (if (0 ≤ a ∧ a ≤ w 276 - 1) ∧ 0 ≤ s ∧ s ≤ 1 then pOn w a s else -1) = pOn w a s := if_pos ⟨by omega, hs⟩
    rw [e201_4, if_neg (by omega), c252 d hR hn, p_b, e252, pRg]
    by_cases q : pOn w a s = -1
    · rw [if_pos q, if_pos q]
    · rw [if_neg q, if_neg q, p_shr1 (by omega) (by omega)]
      by_cases q2 : pOn w a s / 2 = p
      · rw [if_pos q2, if_pos q2]
      · rw [if_neg q2, if_neg q2, p_w (by omega) (by omega)]
        exact ih _ (n + 1) _ (by omega) (by omega) (by omega) (by omega)
theorem m89_4 (d : Nat) {M : am_M} (hn : 0 ≤ M 187 276 ∧ M 187 276 ≤ 8) (p s : Int) (hs : 0 ≤ s ∧ s ≤ 1) : ∀ (k : Nat) (a n : Int) (o5 : Option am_V), n = 9 - k → 0 ≤ n → am_L (d + 2) 89 4 [some (.inr 186), some (.inl p), some (.inl s), some (.inl a), some (.inl n), o5] [] M = some (pRg (M 187) p s k a n, M) := by
  intro k
  induction k with
  | zero =>
    intro a n o5 h1 h2
    rw [e89_4, if_pos (by omega)]
    rfl
  | succ k ih =>
    intro a n o5 h1 h2
    have hr := pOn_range (w := M 187) (p := a) hs hn.1
    rw [e89_4, if_neg (by omega), m12 _ _ _ _ hn hs, p_b, pRg]
    by_cases q : pOn (M 187) a s = -1
    · rw [if_pos q, if_pos q]
    · rw [if_neg q, if_neg q, m13 _ _ _ (by omega), p_b]
      by_cases q2 : pOn (M 187) a s / 2 = p
      · rw [if_pos q2, if_pos q2]
      · rw [if_neg q2, if_neg q2, p_w (by omega) (by omega)]
        exact ih _ (n + 1) _ (by omega) (by omega)
theorem q_of {C M : am_M} (hI : Inv C M) (p a : Int) : Pair C M 200 90 [.inl p, .inl a] := by
  have hR := hI.1.1
  have hw := hI.1.2.1
  have n2 := hw.1.2.1
  refine Pair_e (v := if 0 ≤ p ∧ p ≤ M 187 276 - 1 then (if a = 0 then pp (M 187) p 0 else if a = 1 then M 187 (277 + p) else if a = 2 then pp (M 187) p 1 else if a = 3 then pp (M 187) p 2 else if a = 4 then pOn (M 187) p 0 else if a = 5 then pOn (M 187) p 1 else if a = 6 then pRg (M 187) p 0 8 p 1 else if a = 7 then pRg (M 187) p 1 8 p 1 else -2) else -2) hI ?_ ?_
  · rw [e200, c134 _ ho1 hR, p_b, p_i0]
    by_cases h : 0 ≤ p ∧ p ≤ M 187 276 - 1
    · have e0 : M 2 p = pp (M 187) p 0 := R_coin hR h.1 (by omega)
      have e1 : M 3 p = M 187 (277 + p) := R_child hR h.1 (by omega)
      have e2 : M 4 p = pp (M 187) p 1 := R_task hR h.1 (by omega)
      have e3 : M 5 p = pp (M 187) p 2 := R_guilt hR h.1 (by omega)
      have e4 : M 6 (2 * p + 0) = pOn (M 187) p 0 := R_on hR h.1 (by omega) (by omega) (by omega)
      have e5 : M 6 (2 * p + 1) = pOn (M 187) p 1 := R_on hR h.1 (by omega) (by omega) (by omega)
      rw [show 2 * p + 0 = 2 * p from by omega] at e4
      have r6 := c201_4 996 hR n2 p 0 (by omega) 8 p 1 none (by omega) (by omega) h.1 (by omega)
      have r7 := c201_4 996 hR n2 p 1 (by omega) 8 p 1 none (by omega) (by omega) h.1 (by omega)
      rw [if_pos h, if_pos h, p_c (by omega), p_c (by omega), p_c (by omega), p_c (by omega), p_w (x := 2 * p) (by omega) (by omega), p_w (x := 2 * p + 1) (by omega) (by omega), p_c (by omega), p_c (by omega), e0, e1, e2, e3, e4, e5, e201, e201, r6, r7, p_b, p_b]
      repeat' split
      all_goals rfl
    · rw [if_neg h, if_neg h]
  · rw [e90, m8 _ _ _ n2, p_b, p_i0]
    by_cases h : 0 ≤ p ∧ p ≤ M 187 276 - 1
    · have r6 := m89_4 996 n2 p 0 (by omega) 8 p 1 none (by omega) (by omega)
      have r7 := m89_4 996 n2 p 1 (by omega) 8 p 1 none (by omega) (by omega)
      rw [if_pos h, if_pos h, m3 _ _ _ _ (by omega) (by omega), p_b, p_w (x := 277 + p) (by omega) (by omega), p_c (by omega), m3 _ _ _ _ (by omega) (by omega), p_b, m3 _ _ _ _ (by omega) (by omega), p_b, m12 _ _ _ _ n2 (by omega), p_b, m12 _ _ _ _ n2 (by omega), p_b, e89, e89, r6, r7, p_b, p_b]
      repeat' split
      all_goals rfl
    · rw [if_neg h, if_neg h]
theorem q_at {C M : am_M} (hI : Inv C M) (h a : Int) : Pair C M 202 91 [.inl h, .inl a] := by
  have hR := hI.1.1
  have hw := hI.1.2.1
  have n1 := hw.1.1
  have n2 := hw.1.2.1
  have hL := pLatest_range (w := M 187) (h := h) n1.1
  refine Pair_e (v := if (0 ≤ h ∧ h ≤ 2 * M 187 276 - 1) ∧ 0 ≤ a ∧ a ≤ 10 then (if a ≤ 8 then ph (M 187) h a else if a = 9 then pLoans (M 187) h else if pLatest (M 187) h = -1 then -1 else pl (M 187) (pLatest (M 187) h) 3) else -2) hI ?_ ?_
  · rw [e202, c135 _ ho1 hR n2, p_b, p_i0]
    by_cases c : 0 ≤ h ∧ h ≤ 2 * M 187 276 - 1
    · have e4 : M 9 h = ph (M 187) h 4 := R_wear hR c.1 (by omega)
      have e5 : M 10 h = ph (M 187) h 5 := R_scars hR c.1 (by omega)
      have e6 : M 11 h = ph (M 187) h 6 := R_marks hR c.1 (by omega)
      have e7 : M 12 h = ph (M 187) h 7 := R_held hR c.1 (by omega)
      have e8 : M 7 h = ph (M 187) h 8 := R_at hR c.1 (by omega)
      have es : ∀ k, 0 ≤ k → k < 4 → ∀ x3, am_L 999 202 14 [some (.inr 0), some (.inl h), some (.inl k), some (.inl x3)] [] M = some (ph (M 187) h k, M) := by
        intro k k0 k1 x3
        have e : M 8 (h * 4 + k) = ph (M 187) h k := R_skill hR c.1 (by omega) k0 k1
        rw [e202_14, p_w (x := h * 4) (by omega) (by omega), p_w (by omega) (by omega), p_c (by omega), e]
      rw [if_pos c, c143 _ ho1 hR n1, p_b]
      by_cases a0 : a = 0
      · subst a0
        rw [if_pos rfl, es 0 (by omega) (by omega), if_pos ⟨c, by omega⟩, if_pos (by omega)]
      by_cases a1 : a = 1
      · subst a1
        rw [if_neg (by omega), if_pos rfl, es 1 (by omega) (by omega), if_pos ⟨c, by omega⟩, if_pos (by omega)]
      by_cases a2 : a = 2
      · subst a2
        rw [if_neg (by omega), if_neg (by omega), if_pos rfl, es 2 (by omega) (by omega), if_pos ⟨c, by omega⟩, if_pos (by omega)]
      by_cases a3 : a = 3
      · subst a3
        rw [if_neg (by omega), if_neg (by omega), if_neg (by omega), if_pos rfl, es 3 (by omega) (by omega), if_pos ⟨c, by omega⟩, if_pos (by omega)]
      rw [if_neg a0, if_neg a1, if_neg a2, if_neg a3, p_c (by omega), p_c (by omega), p_c (by omega), p_c (by omega), p_c (by omega), e4, e5, e6, e7, e8, c144 _ ho1 hR n1, p_b]
      by_cases a4 : a = 4
      · subst a4
        rw [if_pos rfl, if_pos ⟨c, by omega⟩, if_pos (by omega)]
      by_cases a5 : a = 5
      · subst a5
        rw [if_neg (by omega), if_pos rfl, if_pos ⟨c, by omega⟩, if_pos (by omega)]
      by_cases a6 : a = 6
      · subst a6
        rw [if_neg (by omega), if_neg (by omega), if_pos rfl, if_pos ⟨c, by omega⟩, if_pos (by omega)]
      by_cases a7 : a = 7
      · subst a7
        rw [if_neg (by omega), if_neg (by omega), if_neg (by omega), if_pos rfl, if_pos ⟨c, by omega⟩, if_pos (by omega)]
      by_cases a8 : a = 8
      · subst a8
        rw [if_neg (by omega), if_neg (by omega), if_neg (by omega), if_neg (by omega), if_pos rfl, if_pos ⟨c, by omega⟩, if_pos (by omega)]
      rw [if_neg a4, if_neg a5, if_neg a6, if_neg a7, if_neg a8]
      by_cases a9 : a = 9
      · subst a9
        rw [if_pos rfl, if_pos ⟨c, by omega⟩, if_neg (by omega), if_pos rfl]
      by_cases a10 : a = 10
      · subst a10
        rw [if_neg (by omega), if_pos rfl, if_pos (show (0 ≤ h ∧ h ≤ 2 * M 187 276 - 1) ∧ 0 ≤ (10 : Int) ∧ (10 : Int) ≤ 10 from ⟨c, by omega⟩), if_neg (show ¬ (10 : Int) ≤ 8 by omega), if_neg (show ¬ (10 : Int) = 9 by omega)]
        rcases hL with q | q
        · rw [if_pos q, if_pos q]
        · rw [if_neg (by omega), if_neg (by omega), c142 _ ho1 hR (by omega) (by omega), p_b]
      · rw [if_neg a9, if_neg a10, if_neg (by omega)]
    · rw [if_neg c, if_neg (fun q => c q.1)]
  · rw [e91, m9 _ _ _ n2, p_b, p_i0]
    by_cases c : 0 ≤ h ∧ h ≤ 2 * M 187 276 - 1
    · rw [if_pos c, m0, p_b, p_i0]
      by_cases b : 0 ≤ a ∧ a ≤ 10
      · rw [if_pos b, if_pos (show (0 ≤ h ∧ h ≤ 2 * M 187 276 - 1) ∧ 0 ≤ a ∧ a ≤ 10 from ⟨c, b⟩), m60 _ _ _ n1, p_b, m61 _ _ _ n1, p_b]
        by_cases b1 : a ≤ 8
        · rw [if_neg (show ¬ 8 < a by omega), if_pos b1, m5 _ _ _ _ (by omega) (by omega), p_b]
        · rw [if_pos (show 8 < a by omega), if_neg b1]
          by_cases b2 : a = 9
          · rw [if_pos b2, if_pos b2]
          · rw [if_neg b2, if_neg b2]
            rcases hL with q | q
            · rw [if_pos q, if_pos q]
            · rw [if_neg (show ¬ pLatest (M 187) h = -1 by omega), if_neg (show ¬ pLatest (M 187) h = -1 by omega), m7 _ _ _ _ (by omega) (by omega), p_b]
      · rw [if_neg b, if_neg (fun q => b q.2)]
    · rw [if_neg c, if_neg (fun q => c q.1)]
theorem q_loan {C M : am_M} (hI : Inv C M) (i a : Int) : Pair C M 203 92 [.inl i, .inl a] := by
  have hR := hI.1.1
  have hw := hI.1.2.1
  have n1 := hw.1.1
  have eL : M 1 3 = M 187 1 := R_ln hR
  refine Pair_e (v := if (0 ≤ i ∧ i ≤ M 187 1 - 1) ∧ 0 ≤ a ∧ a ≤ 4 then pl (M 187) i a else -1) hI ?_ ?_
  · rw [e203, eL, p_w (by omega) (by omega), c253, p_b, p_i0]
    by_cases c : 0 ≤ i ∧ i ≤ M 187 1 - 1
    · rw [if_pos c, c253, p_b, p_i0]
      by_cases b : 0 ≤ a ∧ a ≤ 4
      · rw [if_pos b, if_pos ⟨c, b⟩, c142 _ ho1 hR (by omega) (by omega), p_b]
      · rw [if_neg b, if_neg (fun q => b q.2)]
    · rw [if_neg c, if_neg (fun q => c q.1)]
  · rw [e92, p_c (by omega), p_w (by omega) (by omega), m0, p_b, p_i0]
    by_cases c : 0 ≤ i ∧ i ≤ M 187 1 - 1
    · rw [if_pos c, m0, p_b, p_i0]
      by_cases b : 0 ≤ a ∧ a ≤ 4
      · rw [if_pos b, if_pos ⟨c, b⟩, m7 _ _ _ _ (by omega) (by omega), p_b]
      · rw [if_neg b, if_neg (fun q => b q.2)]
    · rw [if_neg c, if_neg (fun q => c q.1)]
theorem q_book {C M : am_M} (hI : Inv C M) (i a : Int) : Pair C M 204 93 [.inl i, .inl a] := by
  have hR := hI.1.1
  have hw := hI.1.2.1
  have n3 := hw.1.2.2
  have hB := hI.1.2.2.2.2.2
  have eL : M 1 4 = M 187 2 := R_bk hR
  refine Pair_e (v := if (0 ≤ i ∧ i ≤ M 187 2 - 1) ∧ 0 ≤ a ∧ a ≤ 3 then M 187 (404 + 4 * i + a) else -1) hI ?_ ?_
  · rw [e204, eL, p_w (by omega) (by omega), c253, p_b, p_i0]
    by_cases c : 0 ≤ i ∧ i ≤ M 187 2 - 1
    · rw [if_pos c, c253, p_b, p_i0]
      by_cases b : 0 ≤ a ∧ a ≤ 3
      · have e : M 52 (i * 4 + a) = M 187 (404 + 4 * i + a) := by
          rw [hB (i * 4 + a) (by omega) (by omega)]
          congr 1
          omega
        rw [if_pos b, if_pos ⟨c, b⟩, p_w (x := i * 4) (by omega) (by omega), p_w (by omega) (by omega), p_c (by omega), e]
      · rw [if_neg b, if_neg (fun q => b q.2)]
    · rw [if_neg c, if_neg (fun q => c q.1)]
  · rw [e93, p_c (by omega), p_w (x := M 187 2 - 1) (by omega) (by omega), m0, p_b, p_i0]
    by_cases c : 0 ≤ i ∧ i ≤ M 187 2 - 1
    · rw [if_pos c, m0, p_b, p_i0]
      by_cases b : 0 ≤ a ∧ a ≤ 3
      · rw [if_pos b, if_pos ⟨c, b⟩, p_w (x := 4 * i) (by omega) (by omega), p_w (x := 404 + 4 * i) (by omega) (by omega), p_w (by omega) (by omega), p_c (by omega)]
      · rw [if_neg b, if_neg (fun q => b q.2)]
    · rw [if_neg c, if_neg (fun q => c q.1)]
