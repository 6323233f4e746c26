/-! PURE: text: which word it is, for the class -/
def sBg (n : Nat) : Nat := ([0, 5, 10, 15, 21, 27, 33, 38, 44, 48, 54, 60, 65, 70, 75, 80, 83, 87, 91, 95, 99, 105, 110, 115, 119, 124, 129, 134, 139, 144, 147, 150, 154, 159, 165, 170] : List Nat).getD n 0
def sId (n : Nat) : Nat := ([21, 16, 17, 22, 18, 5, 19, 23, 24, 20, 29, 30, 31, 32, 10, 11, 12, 13, 14, 15, 25, 26, 27, 28, 33, 34, 9, 35, 1, 2, 3, 4, 6, 7, 8] : List Nat).getD n 0
/-- the first of the words from n on, for n more, that it is -/
def sFind (f : Int → Int) (a e : Int) : Nat → Nat → Int
  | 0, _ => 201
  | k + 1, n => if sHit f a e (sId n) = true then (n : Int) else sFind f a e k (n + 1)
theorem s_tab : ∀ n : Nat, n < 35 → sId n < 36 ∧ 0 < sId n ∧ sBg (n + 1) = sBg n + (sByt (sId n)).length + 1 ∧ (∀ j, j < (sByt (sId n)).length → (sByt 0).getD (sBg n + j) 0 ≠ 32 ∧ (sByt 0).getD (sBg n + j) 0 = (sByt (sId n)).getD j 0) ∧ (n < 34 → (sByt 0).getD (sBg n + (sByt (sId n)).length) 0 = 32) ∧ sBg (n + 1) ≤ (sByt 0).length + 1 ∧ (n < 34 → sBg (n + 1) ≤ (sByt 0).length) ∧ (n = 34 → sBg (n + 1) = (sByt 0).length + 1) := by decide +kernel
theorem s_sz : (sByt 0).length < 400 ∧ sBg 0 = 0 := by decide +kernel
theorem c167_2 (d : Nat) {M : am_M} (hM : M 300 0 = 0 ∧ ∀ j, 0 ≤ j → M 400 j = (sByt 0).getD j.toNat 0) {n : Nat} (hn : n < 35) {a : Int} (h0 : 0 ≤ a) (hl : a + ((sByt (sId n)).length : Int) ≤ 400) : ∀ (l : List Int) (j : Nat), (sByt (sId n)).drop j = l → am_L (d + 4) 167 2 [some (.inr 91), some (.inl a), some (.inl (sBg n)), some (.inl ((sBg n : Int) + (sByt (sId n)).length)), some (.inl ((sBg n : Int) + j))] [] M = some (if sEq (M 91) (a + j) l = true then 1 else 0, M) := by
  intro l
  obtain ⟨t1, t2, t3, t4, t5, t6, t7, t8⟩ := s_tab n hn
  have sz := s_sz.1
  induction l with
  | nil =>
    intro j hj
    have := congrArg List.length hj
    rw [List.length_drop, List.length_nil] at this
    rw [e167_2, if_neg (by omega), sEq, if_pos rfl]
  | cons x l ih =>
    intro j hj
    obtain ⟨k1, k2, k3⟩ := s_drop hj
    have w1 := (t4 j k1).2
    have c := c257 d (i := 0) (by decide) hM (j := (sBg n : Int) + j) (by omega)
    rw [show ((sBg n : Int) + (j : Int)).toNat = sBg n + j from by omega, w1, k2] at c
    rw [e167_2, if_pos (by omega), show (300 : Nat) = 300 + 0 from rfl, c, p_b, p_w (x := a + ((sBg n : Int) + (j : Int))) (by omega) (by omega), p_w (x := a + ((sBg n : Int) + (j : Int)) - (sBg n : Int)) (by omega) (by omega), p_c (by omega), show a + ((sBg n : Int) + (j : Int)) - (sBg n : Int) = a + j from by omega, p_w (x := (sBg n : Int) + (j : Int) + 1) (by omega) (by omega), sEq]
    by_cases q : M 91 (a + j) = x
    · have := ih (j + 1) k3
      rw [if_pos q.symm, show (sBg n : Int) + (j : Int) + 1 = (sBg n : Int) + ((j + 1 : Nat) : Int) from by omega, this, decide_eq_true q, Bool.true_and, show a + ((j + 1 : Nat) : Int) = a + (j : Int) + 1 from by omega]
    · rw [if_neg (fun z => q z.symm), decide_eq_false q, Bool.false_and, if_neg (by decide)]
theorem c166_w (d : Nat) {M : am_M} (hM : M 300 0 = 0 ∧ ∀ j, 0 ≤ j → M 400 j = (sByt 0).getD j.toNat 0) {n : Nat} (hn : n < 35) (a e : Int) : ∀ (k j : Nat), j + k = (sByt (sId n)).length → am_L (d + 4) 166 6 [some (.inr 91), some (.inl a), some (.inl e), some (.inl (n : Int)), some (.inl (sBg n : Int)), some (.inl ((sBg n : Int) + j))] [] M = am_L (d + 4) 166 19 [some (.inr 91), some (.inl a), some (.inl e), some (.inl (n : Int)), some (.inl (sBg n : Int)), some (.inl ((sBg n : Int) + (sByt (sId n)).length))] [] M := by
  obtain ⟨t1, t2, t3, t4, t5, t6, t7, t8⟩ := s_tab n hn
  have sz := s_sz.1
  have c6 := c256 (d + 2) (i := 0) (by decide) hM.1
  intro k
  induction k with
  | zero =>
    intro j hj
    obtain rfl : j = (sByt (sId n)).length := by omega
    rw [e166_6, show (300 : Nat) = 300 + 0 from rfl, c6, p_b, if_neg (by omega), c6, p_b]
    by_cases q : n < 34
    · have c := c257 d (i := 0) (by decide) hM (j := (sBg n : Int) + (sByt (sId n)).length) (by have := t7 q; omega)
      rw [show ((sBg n : Int) + ((sByt (sId n)).length : Int)).toNat = sBg n + (sByt (sId n)).length from by omega, t5 q] at c
      rw [if_neg (by have := t7 q; omega), c, p_b, if_pos rfl]
    · rw [if_pos (by have := t8 (by omega); omega)]
  | succ k ih =>
    intro j hj
    have w1 := (t4 j (by omega)).1
    have c := c257 d (i := 0) (by decide) hM (j := (sBg n : Int) + j) (by omega)
    rw [show ((sBg n : Int) + (j : Int)).toNat = sBg n + j from by omega] at c
    rw [e166_6, show (300 : Nat) = 300 + 0 from rfl, c6, p_b, if_neg (by omega), c6, p_b, if_neg (by omega), c, p_b, if_neg w1, p_w (x := (sBg n : Int) + (j : Int) + 1) (by omega) (by omega)]
    have := ih (j + 1) (by omega)
    rw [show (sBg n : Int) + ((j + 1 : Nat) : Int) = (sBg n : Int) + (j : Int) + 1 from by omega] at this
    exact this
theorem c166_n (d : Nat) {M : am_M} (hM : M 300 0 = 0 ∧ ∀ j, 0 ≤ j → M 400 j = (sByt 0).getD j.toNat 0) {a e : Int} (h0 : 0 ≤ a ∧ a ≤ e ∧ e ≤ 400) : ∀ (k n : Nat), n + k = 35 → am_L (d + 5) 166 6 [some (.inr 91), some (.inl a), some (.inl e), some (.inl (n : Int)), some (.inl (sBg n : Int)), some (.inl (sBg n : Int))] [] M = some (sFind (M 91) a e k n, M) := by
  have sz := s_sz.1
  have c6 := c256 (d + 3) (i := 0) (by decide) hM.1
  intro k
  induction k with
  | zero =>
    intro n hn
    obtain rfl : n = 35 := by omega
    have t8 : sBg 35 = (sByt 0).length + 1 := (s_tab 34 (by decide)).2.2.2.2.2.2.2 rfl
    rw [e166_6, show (300 : Nat) = 300 + 0 from rfl, c6, p_b, if_pos (by omega), sFind]
  | succ k ih =>
    intro n hn
    obtain ⟨t1, t2, t3, t4, t5, t6, t7, t8⟩ := s_tab n (by omega)
    have go := c166_w (d + 1) hM (n := n) (by omega) a e (sByt (sId n)).length 0 (by omega)
    rw [show (sBg n : Int) + ((0 : Nat) : Int) = (sBg n : Int) from by omega] at go
    have nx := ih (n + 1) (by omega)
    rw [t3, show ((n + 1 : Nat) : Int) = (n : Int) + 1 from by omega, show ((sBg n + (sByt (sId n)).length + 1 : Nat) : Int) = (sBg n : Int) + (sByt (sId n)).length + 1 from by omega] at nx
    rw [go, e166_19, p_w (x := (sBg n : Int) + ((sByt (sId n)).length : Int) - (sBg n : Int)) (by omega) (by omega), p_w (x := e - a) (by omega) (by omega), p_w (x := (n : Int) + 1) (by omega) (by omega), p_w (x := (sBg n : Int) + ((sByt (sId n)).length : Int) + 1) (by omega) (by omega), nx, sFind]
    unfold sHit
    by_cases q : e - a = ((sByt (sId n)).length : Int)
    · have c := c167_2 d hM (n := n) (by omega) h0.1 (by omega) (sByt (sId n)) 0 rfl
      rw [show (sBg n : Int) + ((0 : Nat) : Int) = (sBg n : Int) from by omega, show a + ((0 : Nat) : Int) = a from by omega] at c
      rw [if_pos (by omega), e167, c, p_b, decide_eq_true q, Bool.true_and]
      by_cases q2 : sEq (M 91) a (sByt (sId n)) = true
      · rw [if_pos q2, if_neg (by decide), if_pos q2]
      · rw [if_neg q2, if_pos rfl, if_neg q2]
        exact nx
    · rw [if_neg (by omega), decide_eq_false q, Bool.false_and, if_neg (by decide)]
      try exact nx
theorem c166 (d : Nat) {M : am_M} (hM : M 300 0 = 0 ∧ ∀ j, 0 ≤ j → M 400 j = (sByt 0).getD j.toNat 0) {a e : Int} (h0 : 0 ≤ a ∧ a ≤ e ∧ e ≤ 400) : am_run (d + 6) 166 [.inr 91, .inl a, .inl e] M = some (sFind (M 91) a e 35 0, M) := by
  rw [e166]
  have := c166_n d hM h0 35 0 rfl
  rw [s_sz.2] at this
  exact this
