/-! PURE: whom to ask; turns -/
def pPopN (x : Int) (n : Int) : Int := pF (fun k c => if pTest x k.toNat = true then c + 1 else c) n.toNat 0
theorem pPopN_next (x : Int) {i : Int} (h : 0 ≤ i) : pPopN x (i + 1) = if pTest x i.toNat = true then pPopN x i + 1 else pPopN x i := (pF_next (fun k c => if pTest x k.toNat = true then c + 1 else c) 0 h).symm
theorem pPopN_range (x : Int) : ∀ k : Nat, 0 ≤ pPopN x k ∧ pPopN x k ≤ k := by
  intro k
  induction k with
  | zero => exact ⟨Int.le_refl _, Int.le_refl _⟩
  | succ k ih =>
    rw [show ((k + 1 : Nat) : Int) = (k : Int) + 1 from by omega, pPopN_next x (by omega)]
    split <;> omega
theorem pPop_N (x : Int) : pPop x = pPopN x 16 := rfl
theorem pPop_range (x : Int) : 0 ≤ pPop x ∧ pPop x ≤ 16 := pPopN_range x 16
theorem pT_bitI {k : Int} (h : 0 ≤ k ∧ k < 32) (x : Int) : am_iand (am_ishr x k) 1 = if pTest x k.toNat = true then 1 else 0 := by
  have := pT_bit k.toNat (by omega) x
  rwa [show ((k.toNat : Nat) : Int) = k from by omega] at this
theorem m112 (d : Nat) (x : Int) (M : am_M) : am_run (d + 1) 112 [.inl x] M = some (pPop x, M) := by
  have : ∀ (k : Nat) (i : Int), i = 16 - k → 0 ≤ i → am_L d 112 4 [some (.inl x), some (.inl (pPopN x i)), some (.inl i)] [] M = some (pPop x, M) := by
    intro k
    induction k with
    | zero =>
      intro i hi h0
      rw [e112_4, if_neg (by omega), show i = 16 from by omega, pPop_N]
    | succ k ih =>
      intro i hi h0
      have next := ih (i + 1) (by omega) (by omega)
      have hr := pPopN_range x i.toNat
      rw [show ((i.toNat : Nat) : Int) = i from by omega] at hr
      rw [pPopN_next x h0] at next
      rw [e112_4, if_pos (by omega), pT_bitI (by omega), p_w (x := i + 1) (by omega) (by omega)]
      by_cases q : pTest x i.toNat = true
      · rw [if_pos q] at next ⊢
        rw [p_w (by omega) (by omega)]
        exact next
      · rw [if_neg q] at next ⊢
        rw [p_w (by omega) (by omega), Int.add_zero]
        exact next
  rw [e112]
  exact this 16 0 (by omega) (by omega)
/-- how many hands of x bear p's mark, of the first n -/
def pMd (w : Int → Int) (x p n : Int) : Int := pF (fun h c => if pTest x h.toNat = true ∧ pTest (ph w h 6) p.toNat = true then c + 1 else c) n.toNat 0
theorem pMd_next (w : Int → Int) (x p : Int) {i : Int} (h : 0 ≤ i) : pMd w x p (i + 1) = if pTest x i.toNat = true ∧ pTest (ph w i 6) p.toNat = true then pMd w x p i + 1 else pMd w x p i := (pF_next (fun h c => if pTest x h.toNat = true ∧ pTest (ph w h 6) p.toNat = true then c + 1 else c) 0 h).symm
theorem pMd_range (w : Int → Int) (x p : Int) : ∀ k : Nat, 0 ≤ pMd w x p k ∧ pMd w x p k ≤ k := by
  intro k
  induction k with
  | zero => exact ⟨Int.le_refl _, Int.le_refl _⟩
  | succ k ih =>
    rw [show ((k + 1 : Nat) : Int) = (k : Int) + 1 from by omega, pMd_next w x p (by omega)]
    split <;> omega
theorem pMd_stop {w : Int → Int} {x p : Int} {m : Nat} (hx : ∀ i : Nat, m ≤ i → pTest x i = false) : ∀ k : Nat, pMd w x p ((m + k : Nat) : Int) = pMd w x p m := by
  intro k
  induction k with
  | zero => rfl
  | succ k ih =>
    rw [show ((m + (k + 1) : Nat) : Int) = ((m + k : Nat) : Int) + 1 from by omega, pMd_next w x p (by omega), ih, if_neg]
    intro q
    have := hx (m + k) (by omega)
    rw [Int.toNat_natCast, this] at q
    exact absurd q.1 (by decide)
/-- best so far, and the least that is left -/
def pAk1 (w : Int → Int) (x : Int) (p : Int) (s : Int × Int) : Int × Int := if max (pMd w x p 16) (pPop x - pMd w x p 16) < s.2 then (p, max (pMd w x p 16) (pPop x - pMd w x p 16)) else s
def pAk (w : Int → Int) (x n : Int) : Int × Int := pF (pAk1 w x) n.toNat (-1, 17)
theorem pAk_next (w : Int → Int) (x : Int) {i : Int} (h : 0 ≤ i) : pAk w x (i + 1) = pAk1 w x i (pAk w x i) := (pF_next (pAk1 w x) (-1, 17) h).symm
theorem q_ask {C M : am_M} (hI : Inv C M) (x : Int) : Pair C M 213 113 [.inl x] := by
  have hR := hI.1.1
  have hw := hI.1.2.1
  have n2 := hw.1.2.1
  have s0 : M 1 2 = M 187 276 := R_n hR
  have hs := pShl_n (n := 2 * M 187 276) (by omega)
  have pr := pPop_range x
  have small : (0 ≤ x ∧ x ≤ am_ishl 1 (2 * M 187 276) - 1) → ∀ p, pMd (M 187) x p 16 = pMd (M 187) x p (2 * M 187 276) := by
    intro hx p
    have hz : ∀ i : Nat, (2 * M 187 276).toNat ≤ i → pTest x i = false := fun i hi => pT_small hx.1 (n := (2 * M 187 276).toNat) (by omega) hi
    have := pMd_stop (w := M 187) (p := p) hz (16 - (2 * M 187 276).toNat)
    rwa [show (((2 * M 187 276).toNat + (16 - (2 * M 187 276).toNat) : Nat) : Int) = 16 from by omega, show (((2 * M 187 276).toNat : Nat) : Int) = 2 * M 187 276 from by omega] at this
  have c214 : ∀ (p : Int), 0 ≤ p → p < 8 → ∀ (k : Nat) (i : Int), i = 2 * M 187 276 - k → 0 ≤ i → am_L 998 214 4 [some (.inr 0), some (.inl x), some (.inl p), some (.inl (pMd (M 187) x p i)), some (.inl i)] [] M = some (pMd (M 187) x p (2 * M 187 276), M) := by
    intro p p0 p1 k
    induction k with
    | zero =>
      intro i hi h0
      rw [e214_4, s0, p_w (by omega) (by omega), if_neg (by omega), show i = 2 * M 187 276 from by omega]
    | succ k ih =>
      intro i hi h0
      have next := ih (i + 1) (by omega) (by omega)
      have hr := pMd_range (M 187) x p i.toNat
      rw [show ((i.toNat : Nat) : Int) = i from by omega] at hr
      have em : M 11 i = ph (M 187) i 6 := R_marks hR h0 (by omega)
      rw [pMd_next _ _ _ h0] at next
      rw [e214_4, s0, p_w (x := 2 * M 187 276) (by omega) (by omega), if_pos (by omega), pT_bitI (by omega), p_c (by omega), em, pT_bitI (by omega), p_w (x := i + 1) (by omega) (by omega), p_i1, p_i1, p_w (x := pMd (M 187) x p i + 1) (by omega) (by omega)]
      by_cases q : pTest x i.toNat = true
      · rw [if_pos q]
        by_cases q2 : pTest (ph (M 187) i 6) p.toNat = true
        · rw [if_pos ⟨q, q2⟩] at next
          rw [if_pos q2]
          exact next
        · rw [if_neg (fun z => q2 z.2)] at next
          rw [if_neg q2]
          exact next
      · rw [if_neg q]
        rw [if_neg (fun z => q z.1)] at next
        exact next
  have cl : (0 ≤ x ∧ x ≤ am_ishl 1 (2 * M 187 276) - 1) → ∀ (k : Nat) (i : Int) (o6 o7 : Option am_V), i = M 187 276 - k → 0 ≤ i → am_L 999 213 27 [some (.inr 0), some (.inl x), some (.inl (pPop x)), some (.inl (pAk (M 187) x i).1), some (.inl (pAk (M 187) x i).2), some (.inl i), o6, o7] [] M = some ((pAk (M 187) x (M 187 276)).1, M) := by
    intro hx k
    induction k with
    | zero =>
      intro i o6 o7 hi h0
      rw [e213_27, s0, if_neg (by omega), show i = M 187 276 from by omega]
    | succ k ih =>
      intro i o6 o7 hi h0
      have next := ih (i + 1)
      have sm := small hx i
      have hr : 0 ≤ pMd (M 187) x i 16 ∧ pMd (M 187) x i 16 ≤ 16 := pMd_range (M 187) x i 16
      have c := c214 i h0 (by omega) (2 * M 187 276).toNat 0 (by omega) (by omega)
      have z : pMd (M 187) x i 0 = 0 := rfl
      rw [z, ← sm] at c
      rw [pAk_next _ _ h0] at next
      rw [e213_27, s0, if_pos (by omega), e214, c, p_b, p_w (x := pPop x - pMd (M 187) x i 16) (by omega) (by omega), p_w (x := i + 1) (by omega) (by omega)]
      unfold pAk1 at next
      by_cases q : max (pMd (M 187) x i 16) (pPop x - pMd (M 187) x i 16) < (pAk (M 187) x i).2
      · rw [if_pos q] at next ⊢
        exact next _ _ (by omega) (by omega)
      · rw [if_neg q] at next ⊢
        exact next _ _ (by omega) (by omega)
  have m36 : ∀ (p b l : Int), 0 ≤ p → p < 8 → ∀ (k : Nat) (i : Int), i = 16 - k → 0 ≤ i → ∃ o5 o6, am_L 999 113 36 [some (.inr 186), some (.inl x), some (.inl b), some (.inl l), some (.inl p), some (.inl (pMd (M 187) x p i)), some (.inl i)] [] M = am_L 999 113 26 [some (.inr 186), some (.inl x), some (.inl (pAk1 (M 187) x p (b, l)).1), some (.inl (pAk1 (M 187) x p (b, l)).2), some (.inl (p + 1)), some (.inl o5), some (.inl o6)] [] M := by
    intro p b l p0 p1 k
    induction k with
    | zero =>
      intro i hi h0
      obtain rfl : i = 16 := by omega
      have hr : 0 ≤ pMd (M 187) x p 16 ∧ pMd (M 187) x p 16 ≤ 16 := pMd_range (M 187) x p 16
      rw [e113_36, if_neg (by omega), m112, p_b, p_w (x := pPop x - pMd (M 187) x p 16) (by omega) (by omega), m2, p_b, p_w (x := p + 1) (by omega) (by omega)]
      unfold pAk1
      by_cases q : max (pMd (M 187) x p 16) (pPop x - pMd (M 187) x p 16) < l
      · rw [if_pos q, if_pos q]
        exact ⟨_, _, rfl⟩
      · rw [if_neg q, if_neg q]
        exact ⟨_, _, rfl⟩
    | succ k ih =>
      intro i hi h0
      have next := ih (i + 1) (by omega) (by omega)
      have hr := pMd_range (M 187) x p i.toNat
      rw [show ((i.toNat : Nat) : Int) = i from by omega] at hr
      rw [pMd_next _ _ _ h0] at next
      rw [e113_36, if_pos (by omega), pT_bitI (by omega), m5 _ _ _ _ (by omega) (by omega), p_b, pT_bitI (by omega), p_w (x := i + 1) (by omega) (by omega), p_i1, p_i1, p_w (x := pMd (M 187) x p i + 1) (by omega) (by omega), p_w (x := pMd (M 187) x p i + 0) (by omega) (by omega), Int.add_zero]
      by_cases q : pTest x i.toNat = true
      · rw [if_pos q]
        by_cases q2 : pTest (ph (M 187) i 6) p.toNat = true
        · rw [if_pos ⟨q, q2⟩] at next
          rw [if_pos q2]
          exact next
        · rw [if_neg (fun z => q2 z.2)] at next
          rw [if_neg q2]
          exact next
      · rw [if_neg q]
        rw [if_neg (fun z => q z.1)] at next
        exact next
  have ml : ∀ (k : Nat) (i : Int) (o6 o7 : Option am_V), i = M 187 276 - k → 0 ≤ i → am_L 999 113 26 [some (.inr 186), some (.inl x), some (.inl (pAk (M 187) x i).1), some (.inl (pAk (M 187) x i).2), some (.inl i), o6, o7] [] M = some ((pAk (M 187) x (M 187 276)).1, M) := by
    intro k
    induction k with
    | zero =>
      intro i o6 o7 hi h0
      rw [e113_26, p_c (by omega), if_neg (by omega), show i = M 187 276 from by omega]
    | succ k ih =>
      intro i o6 o7 hi h0
      have next := ih (i + 1)
      rw [pAk_next _ _ h0] at next
      obtain ⟨o5, o6', h36⟩ := m36 i (pAk (M 187) x i).1 (pAk (M 187) x i).2 h0 (by omega) 16 0 (by omega) (by omega)
      have z : pMd (M 187) x i 0 = 0 := rfl
      rw [z] at h36
      rw [e113_26, p_c (by omega), if_pos (by omega), h36]
      exact next _ _ (by omega) (by omega)
  refine Pair_e (v := if (0 ≤ x ∧ x ≤ am_ishl 1 (2 * M 187 276) - 1) ∧ ¬ pPop x < 2 then (pAk (M 187) x (M 187 276)).1 else -1) hI ?_ ?_
  · by_cases c : 0 ≤ x ∧ x ≤ am_ishl 1 (2 * M 187 276) - 1
    · rw [e213, c255p _ _ c.1 (by omega), p_b, s0, p_w (x := 2 * M 187 276) (by omega) (by omega), p_w (by omega) (by omega), c253, p_b, p_i0, if_pos c]
      by_cases c2 : pPop x < 2
      · rw [if_pos c2, if_neg (fun q => q.2 c2)]
      · rw [if_neg c2, if_pos ⟨c, c2⟩]
        exact cl c (M 187 276).toNat 0 none none (by omega) (by omega)
    · obtain ⟨r, hr⟩ := c255r 998 M x
      rw [e213, hr, p_b, s0, p_w (x := 2 * M 187 276) (by omega) (by omega), p_w (by omega) (by omega), c253, p_b, p_i0, if_neg c, if_neg (fun q => c q.1)]
  · rw [e113, p_c (by omega), p_w (x := 2 * M 187 276) (by omega) (by omega), p_w (by omega) (by omega), m0, p_b, p_i0]
    by_cases c : 0 ≤ x ∧ x ≤ am_ishl 1 (2 * M 187 276) - 1
    · rw [if_pos c, m112, p_b]
      by_cases c2 : pPop x < 2
      · rw [if_pos c2, if_neg (fun q => q.2 c2)]
      · rw [if_neg c2, if_pos ⟨c, c2⟩]
        exact ml (M 187 276).toNat 0 none none (by omega) (by omega)
    · rw [if_neg c, if_neg (fun q => c q.1)]
def pTu (n c d a : Int) : Nat → Int → Int → Int
  | 0, _, had => had
  | k + 1, i, had => if a = 10 + i then (if (i - had) * c < had * d then 1 else 0) else pTu n c d a k (i + 1) (if (i - had) * c < had * d then had else had + 1)
theorem p_mul60 {a b : Int} (ha : 0 ≤ a ∧ a ≤ 60) (hb : 1 ≤ b ∧ b ≤ 9) : 0 ≤ a * b ∧ a * b ≤ 540 := by
  refine ⟨Int.mul_nonneg ha.1 (by omega), ?_⟩
  have h1 : a * b ≤ 60 * b := Int.mul_le_mul_of_nonneg_right ha.2 (by omega)
  omega
theorem q_turns {C M : am_M} (hI : Inv C M) (n c d a : Int) : Pair C M 215 129 [.inl n, .inl c, .inl d, .inl a] := by
  have cl : (1 ≤ n ∧ n ≤ 60) → (1 ≤ c ∧ c ≤ 9) → (1 ≤ d ∧ d ≤ 9) → ∀ (k : Nat) (i had : Int) (o7 : Option am_V), i = n - k → 0 ≤ i → 0 ≤ had → had ≤ i → am_L 999 215 32 [some (.inr 0), some (.inl n), some (.inl c), some (.inl d), some (.inl a), some (.inl had), some (.inl i), o7] [] M = some (pTu n c d a k i had, M) := by
    intro hn hc hd k
    induction k with
    | zero =>
      intro i had o7 hi h0 h1 h2
      rw [e215_32, if_neg (by omega)]
      rfl
    | succ k ih =>
      intro i had o7 hi h0 h1 h2
      have t1 := p_mul60 (a := i - had) (b := c) (by omega) hc
      have t2 := p_mul60 (a := had) (b := d) (by omega) hd
      rw [e215_32, if_pos (by omega), p_w (x := i - had) (by omega) (by omega), p_w (x := (i - had) * c) (by omega) (by omega), p_w (x := had * d) (by omega) (by omega), p_w (x := 10 + i) (by omega) (by omega), p_w (x := i + 1) (by omega) (by omega), p_w (x := had + 1) (by omega) (by omega), pTu]
      by_cases q : (i - had) * c < had * d
      · simp only [if_pos q]
        by_cases q2 : a = 10 + i
        · simp only [if_pos q2, if_true]
        · simp only [if_neg q2, if_true]
          exact ih _ _ _ (by omega) (by omega) (by omega) (by omega)
      · simp only [if_neg q]
        by_cases q2 : a = 10 + i
        · simp only [if_pos q2, show ¬ (1 : Int) = 0 by decide, if_false]
        · simp only [if_neg q2, show ¬ (1 : Int) = 0 by decide, if_false]
          exact ih _ _ _ (by omega) (by omega) (by omega) (by omega)
  have ml : (1 ≤ n ∧ n ≤ 60) → (1 ≤ c ∧ c ≤ 9) → (1 ≤ d ∧ d ≤ 9) → ∀ (k : Nat) (i had : Int) (o7 : Option am_V), i = n - k → 0 ≤ i → 0 ≤ had → had ≤ i → am_L 999 129 32 [some (.inr 186), some (.inl n), some (.inl c), some (.inl d), some (.inl a), some (.inl had), some (.inl (i - had)), some (.inl i), o7] [] M = some (pTu n c d a k i had, M) := by
    intro hn hc hd k
    induction k with
    | zero =>
      intro i had o7 hi h0 h1 h2
      rw [e129_32, if_neg (by omega)]
      rfl
    | succ k ih =>
      intro i had o7 hi h0 h1 h2
      have t1 := p_mul60 (a := i - had) (b := c) (by omega) hc
      have t2 := p_mul60 (a := had) (b := d) (by omega) hd
      rw [e129_32, if_pos (by omega), p_w (x := (i - had) * c) (by omega) (by omega), p_w (x := had * d) (by omega) (by omega), e129_45, e129_45, p_w (x := 10 + i) (by omega) (by omega), p_w (x := i + 1) (by omega) (by omega), p_w (x := had + 1) (by omega) (by omega), p_w (x := had + 0) (by omega) (by omega), p_w (x := i - had + 0) (by omega) (by omega), p_w (x := i - had + 1) (by omega) (by omega), Int.add_zero, Int.add_zero, pTu]
      by_cases q : (i - had) * c < had * d
      · simp only [if_pos q]
        by_cases q2 : a = 10 + i
        · simp only [if_pos q2, if_true]
        · simp only [if_neg q2, if_true]
          rw [show i - had + 1 = i + 1 - had from by omega]
          exact ih _ _ _ (by omega) (by omega) (by omega) (by omega)
      · simp only [if_neg q]
        by_cases q2 : a = 10 + i
        · simp only [if_pos q2, show ¬ (1 : Int) = 0 by decide, if_false]
        · simp only [if_neg q2, show ¬ (1 : Int) = 0 by decide, if_false]
          rw [show i - had = i + 1 - (had + 1) from by omega]
          exact ih _ _ _ (by omega) (by omega) (by omega) (by omega)
  refine Pair_e (v := if (1 ≤ n ∧ n ≤ 60) ∧ (1 ≤ c ∧ c ≤ 9) ∧ (1 ≤ d ∧ d ≤ 9) ∧ (a = 0 ∨ (10 ≤ a ∧ a ≤ 9 + n)) then pTu n c d a n.toNat 0 0 else -1) hI ?_ ?_
  · rw [e215, c253, p_b, p_i0]
    by_cases h1 : 1 ≤ n ∧ n ≤ 60
    · rw [if_pos h1, c253, p_b, p_i0]
      by_cases h2 : 1 ≤ c ∧ c ≤ 9
      · rw [if_pos h2, c253, p_b, p_i0]
        by_cases h3 : 1 ≤ d ∧ d ≤ 9
        · rw [if_pos h3]
          have fin := cl h1 h2 h3 n.toNat 0 0 none (by omega) (by omega) (by omega) (by omega)
          by_cases h4 : a = 0
          · rw [if_pos h4, if_pos (show (1 ≤ n ∧ n ≤ 60) ∧ (1 ≤ c ∧ c ≤ 9) ∧ (1 ≤ d ∧ d ≤ 9) ∧ (a = 0 ∨ (10 ≤ a ∧ a ≤ 9 + n)) from ⟨h1, h2, h3, Or.inl h4⟩)]
            exact fin
          · rw [if_neg h4, p_w (x := 9 + n) (by omega) (by omega), c253, p_b, p_i0]
            by_cases h5 : 10 ≤ a ∧ a ≤ 9 + n
            · rw [if_pos h5, if_pos (show (1 ≤ n ∧ n ≤ 60) ∧ (1 ≤ c ∧ c ≤ 9) ∧ (1 ≤ d ∧ d ≤ 9) ∧ (a = 0 ∨ (10 ≤ a ∧ a ≤ 9 + n)) from ⟨h1, h2, h3, Or.inr h5⟩)]
              exact fin
            · rw [if_neg h5, if_neg (fun q => q.2.2.2.elim h4 h5)]
        · rw [if_neg h3, if_neg (fun q => h3 q.2.2.1)]
      · rw [if_neg h2, if_neg (fun q => h2 q.2.1)]
    · rw [if_neg h1, if_neg (fun q => h1 q.1)]
  · rw [e129, m0, p_b, p_i0]
    by_cases h1 : 1 ≤ n ∧ n ≤ 60
    · rw [if_pos h1, m0, p_b, p_i0]
      by_cases h2 : 1 ≤ c ∧ c ≤ 9
      · rw [if_pos h2, m0, p_b, p_i0]
        by_cases h3 : 1 ≤ d ∧ d ≤ 9
        · rw [if_pos h3]
          have fin := ml h1 h2 h3 n.toNat 0 0 none (by omega) (by omega) (by omega) (by omega)
          by_cases h4 : a = 0
          · rw [if_pos h4, if_pos (show (1 ≤ n ∧ n ≤ 60) ∧ (1 ≤ c ∧ c ≤ 9) ∧ (1 ≤ d ∧ d ≤ 9) ∧ (a = 0 ∨ (10 ≤ a ∧ a ≤ 9 + n)) from ⟨h1, h2, h3, Or.inl h4⟩)]
            exact fin
          · rw [if_neg h4, p_w (x := 9 + n) (by omega) (by omega), m0, p_b, p_i0]
            by_cases h5 : 10 ≤ a ∧ a ≤ 9 + n
            · rw [if_pos h5, if_pos (show (1 ≤ n ∧ n ≤ 60) ∧ (1 ≤ c ∧ c ≤ 9) ∧ (1 ≤ d ∧ d ≤ 9) ∧ (a = 0 ∨ (10 ≤ a ∧ a ≤ 9 + n)) from ⟨h1, h2, h3, Or.inr h5⟩)]
              exact fin
            · rw [if_neg h5, if_neg (fun q => q.2.2.2.elim h4 h5)]
        · rw [if_neg h3, if_neg (fun q => h3 q.2.2.1)]
      · rw [if_neg h2, if_neg (fun q => h2 q.2.1)]
    · rw [if_neg h1, if_neg (fun q => h1 q.1)]
