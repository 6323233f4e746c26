/-! PURE: questions that tell a set -/
theorem pSet_in (P : Int → Bool) (n : Int) : -2147483648 ≤ pSet P n ∧ pSet P n ≤ 2147483647 := by
  unfold pSet
  generalize n.toNat = k
  induction k with
  | zero => exact ⟨by show (-2147483648 : Int) ≤ 0; decide, by show (0 : Int) ≤ 2147483647; decide⟩
  | succ k ih =>
    rw [pF]
    by_cases h : P k = true
    · rw [if_pos h]; exact p_or_in _ _
    · rw [if_neg h]; exact ih
abbrev pOff (w : Int → Int) (h : Int) : Bool := decide (ph w h 8 = -1)
theorem q_look {C M : am_M} (hI : Inv C M) (a : Int) : Pair C M 205 132 [.inl a] := by
  have hR := hI.1.1
  have hw := hI.1.2.1
  have n2 := hw.1.2.1
  have hX := hI.1.2.2.2.2.1
  have r0 : M 34 0 = M 187 288 := hX.1.1.1
  have r1 : M 40 0 = M 187 289 := hX.1.2.1.1
  have r2 : M 46 0 = M 187 290 := hX.1.2.2.1
  have r3 : M 30 0 = M 187 286 := hX.2.1.1
  have r4 : M 32 0 = M 187 287 := hX.2.2.1
  have r5 : M 0 3 = M 186 4 := hI.2.1.1
  have s0 : M 1 2 = M 187 276 := R_n hR
  have s1 : M 1 1 = M 187 0 := R_hr hR
  have s2 : M 1 3 = M 187 1 := R_ln hR
  have s3 : M 1 4 = M 187 2 := R_bk hR
  have s4 : M 1 0 = M 187 3 := R_dr hR
  have l5 : am_rf 29 (am_wrap (5 - 5)) = 34 := by decide
  have l6 : am_rf 29 (am_wrap (6 - 5)) = 40 := by decide
  have l7 : am_rf 29 (am_wrap (7 - 5)) = 46 := by decide
  have k4 : am_cls 34 = 1 := rfl
  have k5 : am_cls 40 = 1 := rfl
  have k6 : am_cls 46 = 1 := rfl
  have c206 : ∀ (k : Nat) (i : Int), i = 2 * M 187 276 - k → 0 ≤ i → am_L 998 206 4 [some (.inr 0), some (.inl (pSet (pOff (M 187)) i)), some (.inl i)] [] M = some (pSet (pOff (M 187)) (2 * M 187 276), M) := by
    intro k
    induction k with
    | zero =>
      intro i hi h0
      rw [e206_4, s0, p_w (by omega) (by omega), if_neg (by omega), show i = 2 * M 187 276 from by omega]
    | succ k ih =>
      intro i hi h0
      have next := ih (i + 1) (by omega) (by omega)
      have ea : M 7 i = ph (M 187) i 8 := R_at hR h0 (by omega)
      rw [pSet_next _ h0] at next
      rw [e206_4, s0, p_w (x := 2 * M 187 276) (by omega) (by omega), if_pos (by omega), p_c (by omega), ea, p_w (x := i + 1) (by omega) (by omega)]
      by_cases h : ph (M 187) i 8 = -1
      · rw [if_pos h]
        rw [if_pos (decide_eq_true h)] at next
        exact next
      · rw [if_neg h]
        rw [if_neg (fun q => h (of_decide_eq_true q))] at next
        exact next
  have m131 : ∀ (k : Nat) (i : Int), i = 2 * M 187 276 - k → 0 ≤ i → am_L 998 131 4 [some (.inr 186), some (.inl (pSet (pOff (M 187)) i)), some (.inl i)] [] M = some (pSet (pOff (M 187)) (2 * M 187 276), M) := by
    intro k
    induction k with
    | zero =>
      intro i hi h0
      rw [e131_4, p_c (by omega), p_w (by omega) (by omega), if_neg (by omega), show i = 2 * M 187 276 from by omega]
    | succ k ih =>
      intro i hi h0
      have next := ih (i + 1) (by omega) (by omega)
      rw [pSet_next _ h0] at next
      rw [e131_4, p_c (by omega), p_w (x := 2 * M 187 276) (by omega) (by omega), if_pos (by omega), m5 _ _ _ _ (by omega) (by omega), p_b, p_w (x := i + 1) (by omega) (by omega), p_or0 (pSet_in _ _)]
      by_cases h : ph (M 187) i 8 = -1
      · rw [if_pos h]
        rw [if_pos (decide_eq_true h)] at next
        exact next
      · rw [if_neg h]
        rw [if_neg (fun q => h (of_decide_eq_true q))] at next
        exact next
  have C6 := c206 (2 * M 187 276).toNat 0 (by omega) (by omega)
  have M6 := m131 (2 * M 187 276).toNat 0 (by omega) (by omega)
  rw [pSet_0] at C6 M6
  refine Pair_e (v := if a = 0 then M 187 276 else if a = 1 then M 187 0 else if a = 2 then M 187 1 else if a = 3 then M 187 2 else if a = 4 then M 187 3 else if a = 5 then M 187 288 else if a = 6 then M 187 289 else if a = 7 then M 187 290 else if a = 8 then M 187 286 else if a = 9 then M 187 287 else if a = 10 then M 186 4 else if a = 11 then pSet (pOff (M 187)) (2 * M 187 276) else -1) hI ?_ ?_
  · rw [e205, e206, C6, p_b, r3, r4, r5, s0, s1, s2, s3, s4]
    by_cases a5 : a = 5
    · subst a5
      simp only [l5, k4, l_B1, cond_true, r0]
      rfl
    by_cases a6 : a = 6
    · subst a6
      simp only [l6, k5, l_B1, cond_true, r1]
      rfl
    by_cases a7 : a = 7
    · subst a7
      simp only [l7, k6, l_B1, cond_true, r2]
      rfl
    rw [if_neg a5, if_neg a6, if_neg a7, if_neg a5, if_neg a6, if_neg a7]
    repeat' split
    all_goals rfl
  · rw [e132, e131, M6, p_b]
    repeat rw [p_c (by omega)]
    by_cases a0 : a = 0
    · subst a0; rfl
    by_cases a1 : a = 1
    · subst a1; rfl
    by_cases a2 : a = 2
    · subst a2; rfl
    by_cases a3 : a = 3
    · subst a3; rfl
    by_cases a4 : a = 4
    · subst a4; rfl
    by_cases a5 : a = 5
    · subst a5; rfl
    by_cases a6 : a = 6
    · subst a6; rfl
    by_cases a7 : a = 7
    · subst a7; rfl
    by_cases a8 : a = 8
    · subst a8; rfl
    by_cases a9 : a = 9
    · subst a9; rfl
    by_cases a10 : a = 10
    · subst a10; rfl
    by_cases a11 : a = 11
    · subst a11; rfl
    simp only [a0, a1, a2, a3, a4, a5, a6, a7, a8, a9, a10, a11, if_false]
abbrev pBare (w : Int → Int) (p : Int) : Bool := decide (ph w (2 * p) 8 ≠ p ∧ ph w (2 * p + 1) 8 ≠ p)
theorem q_bare {C M : am_M} (hI : Inv C M) : Pair C M 210 110 [] := by
  have hR := hI.1.1
  have hw := hI.1.2.1
  have n2 := hw.1.2.1
  have s0 : M 1 2 = M 187 276 := R_n hR
  have cl : ∀ (k : Nat) (i : Int), i = M 187 276 - k → 0 ≤ i → am_L 999 210 4 [some (.inr 0), some (.inl (pSet (pBare (M 187)) i)), some (.inl i)] [] M = some (pSet (pBare (M 187)) (M 187 276), M) := by
    intro k
    induction k with
    | zero =>
      intro i hi h0
      rw [e210_4, s0, if_neg (by omega), show i = M 187 276 from by omega]
    | succ k ih =>
      intro i hi h0
      have next := ih (i + 1) (by omega) (by omega)
      rw [pSet_next _ h0] at next
      rw [e210_4, s0, if_pos (by omega), p_w (x := 2 * i) (by omega) (by omega), c139 _ ho1 hR (by omega), p_b, p_i0, p_w (x := 2 * i + 1) (by omega) (by omega), c139 _ ho1 hR (by omega), p_b, p_i0, p_w (x := i + 1) (by omega) (by omega), show 2 * i / 2 = i from by omega, show (2 * i + 1) / 2 = i from by omega]
      by_cases h : ph (M 187) (2 * i) 8 = i
      · rw [if_pos h]
        rw [if_neg (fun q => (of_decide_eq_true q).1 h)] at next
        exact next
      · rw [if_neg h]
        by_cases h' : ph (M 187) (2 * i + 1) 8 = i
        · rw [if_pos h']
          rw [if_neg (fun q => (of_decide_eq_true q).2 h')] at next
          exact next
        · rw [if_neg h']
          rw [if_pos (decide_eq_true ⟨h, h'⟩)] at next
          exact next
  have ml : ∀ (k : Nat) (i : Int), i = M 187 276 - k → 0 ≤ i → am_L 999 110 4 [some (.inr 186), some (.inl (pSet (pBare (M 187)) i)), some (.inl i)] [] M = some (pSet (pBare (M 187)) (M 187 276), M) := by
    intro k
    induction k with
    | zero =>
      intro i hi h0
      rw [e110_4, p_c (by omega), if_neg (by omega), show i = M 187 276 from by omega]
    | succ k ih =>
      intro i hi h0
      have next := ih (i + 1) (by omega) (by omega)
      rw [pSet_next _ h0] at next
      rw [e110_4, p_c (by omega), if_pos (by omega), p_w (x := 2 * i) (by omega) (by omega), m5 _ _ _ _ (by omega) (by omega), p_b, p_w (x := 2 * i + 1) (by omega) (by omega), m5 _ _ _ _ (by omega) (by omega), p_b, p_w (x := i + 1) (by omega) (by omega), p_or0 (pSet_in _ _)]
      by_cases h : ph (M 187) (2 * i) 8 = i
      · rw [if_pos h]
        rw [if_neg (fun q => (of_decide_eq_true q).1 h)] at next
        exact next
      · rw [if_neg h]
        by_cases h' : ph (M 187) (2 * i + 1) 8 = i
        · rw [if_pos h']
          rw [if_neg (fun q => (of_decide_eq_true q).2 h')] at next
          exact next
        · rw [if_neg h']
          rw [if_pos (decide_eq_true ⟨h, h'⟩)] at next
          exact next
  refine Pair_e hI ((e210 _ _).trans (cl (M 187 276).toNat 0 (by omega) (by omega))) ((e110 _ _).trans (ml (M 187 276).toNat 0 (by omega) (by omega)))
theorem pSub {m x : Int} (hx : -2147483648 ≤ x ∧ x ≤ 2147483647) : am_iand m x = x ↔ am_iand x (am_ixor m (-1)) = 0 := by
  constructor
  · intro h
    refine pT_eq (p_and_in _ _) (by decide) (fun i hi => ?_)
    rw [pT_and, pT_xor, pT_m1 i hi, pT_0]
    have := congrArg (fun z => pTest z i) h
    simp only [pT_and] at this
    cases h1 : pTest m i <;> cases h2 : pTest x i <;> simp_all
  · intro h
    refine pT_eq (p_and_in _ _) hx (fun i hi => ?_)
    rw [pT_and]
    have := congrArg (fun z => pTest z i) h
    simp only [pT_and, pT_xor, pT_m1 i hi, pT_0] at this
    cases h1 : pTest m i <;> cases h2 : pTest x i <;> simp_all
theorem pShl_small : ∀ n : Nat, n ≤ 16 → am_ishl 1 (n : Nat) = 2 ^ n := by decide +kernel
theorem pShl_n {n : Int} (h : 0 ≤ n ∧ n ≤ 16) : am_ishl 1 n = 2 ^ n.toNat ∧ 1 ≤ am_ishl 1 n ∧ am_ishl 1 n ≤ 65536 := by
  have := pShl_small n.toNat (by omega)
  rw [show ((n.toNat : Nat) : Int) = n from by omega] at this
  refine ⟨this, ?_⟩
  rw [this]
  have h2 : ∀ k : Nat, k ≤ 16 → (1 : Int) ≤ 2 ^ k ∧ (2 : Int) ^ k ≤ 65536 := by decide +kernel
  exact h2 n.toNat (by omega)
abbrev pWho (w : Int → Int) (x h : Int) : Bool := decide (am_iand (ph w h 6) x = x)
theorem q_whose {C M : am_M} (hI : Inv C M) (x : Int) : Pair C M 212 111 [.inl x] := by
  have hR := hI.1.1
  have hw := hI.1.2.1
  have n2 := hw.1.2.1
  have s0 : M 1 2 = M 187 276 := R_n hR
  have hs := pShl_n (n := M 187 276) (by omega)
  have cl : ∀ (k : Nat) (i : Int), i = 2 * M 187 276 - k → 0 ≤ i → am_L 999 212 17 [some (.inr 0), some (.inl x), some (.inl (pSet (pWho (M 187) x) i)), some (.inl i)] [] M = some (pSet (pWho (M 187) x) (2 * M 187 276), M) := by
    intro k
    induction k with
    | zero =>
      intro i hi h0
      rw [e212_17, s0, p_w (by omega) (by omega), if_neg (by omega), show i = 2 * M 187 276 from by omega]
    | succ k ih =>
      intro i hi h0
      have next := ih (i + 1) (by omega) (by omega)
      have em : M 11 i = ph (M 187) i 6 := R_marks hR h0 (by omega)
      rw [pSet_next _ h0] at next
      rw [e212_17, s0, p_w (x := 2 * M 187 276) (by omega) (by omega), if_pos (by omega), p_c (by omega), em, p_w (x := i + 1) (by omega) (by omega)]
      by_cases h : am_iand (ph (M 187) i 6) x = x
      · rw [if_pos h]
        rw [if_pos (decide_eq_true h)] at next
        exact next
      · rw [if_neg h]
        rw [if_neg (fun q => h (of_decide_eq_true q))] at next
        exact next
  have ml : (-2147483648 ≤ x ∧ x ≤ 2147483647) → ∀ (k : Nat) (i : Int), i = 2 * M 187 276 - k → 0 ≤ i → am_L 999 111 18 [some (.inr 186), some (.inl x), some (.inl (pSet (pWho (M 187) x) i)), some (.inl i)] [] M = some (pSet (pWho (M 187) x) (2 * M 187 276), M) := by
    intro hx k
    induction k with
    | zero =>
      intro i hi h0
      rw [e111_18, p_c (by omega), p_w (by omega) (by omega), if_neg (by omega), show i = 2 * M 187 276 from by omega]
    | succ k ih =>
      intro i hi h0
      have next := ih (i + 1) (by omega) (by omega)
      rw [pSet_next _ h0] at next
      rw [e111_18, p_c (by omega), p_w (x := 2 * M 187 276) (by omega) (by omega), if_pos (by omega), m5 _ _ _ _ (by omega) (by omega), p_b, p_w (x := i + 1) (by omega) (by omega), p_or0 (pSet_in _ _)]
      by_cases h : am_iand (ph (M 187) i 6) x = x
      · rw [if_pos ((pSub hx).mp h)]
        rw [if_pos (decide_eq_true h)] at next
        exact next
      · rw [if_neg (fun q => h ((pSub hx).mpr q))]
        rw [if_neg (fun q => h (of_decide_eq_true q))] at next
        exact next
  refine Pair_e (v := if 0 ≤ x ∧ x ≤ am_ishl 1 (M 187 276) - 1 then pSet (pWho (M 187) x) (2 * M 187 276) else -1) hI ?_ ?_
  · rw [e212, s0, p_w (by omega) (by omega), c253, p_b, p_i0]
    by_cases c : 0 ≤ x ∧ x ≤ am_ishl 1 (M 187 276) - 1
    · rw [if_pos c, if_pos c]
      exact cl (2 * M 187 276).toNat 0 (by omega) (by omega)
    · rw [if_neg c, if_neg c]
  · rw [e111, p_c (by omega), p_w (by omega) (by omega), m0, p_b, p_i0]
    by_cases c : 0 ≤ x ∧ x ≤ am_ishl 1 (M 187 276) - 1
    · rw [if_pos c, if_pos c]
      exact ml (by omega) (2 * M 187 276).toNat 0 (by omega) (by omega)
    · rw [if_neg c, if_neg c]
/-- a set told in any order -/
def pSetQ (P : Int → Bool) (q : Int → Int) (n : Int) : Int := pF (fun i s => if P i = true then am_ior s (am_ishl 1 (q i)) else s) n.toNat 0
theorem pSetQ_next (P : Int → Bool) (q : Int → Int) {i : Int} (h : 0 ≤ i) : pSetQ P q (i + 1) = if P i = true then am_ior (pSetQ P q i) (am_ishl 1 (q i)) else pSetQ P q i := (pF_next (fun i s => if P i = true then am_ior s (am_ishl 1 (q i)) else s) 0 h).symm
theorem pSetQ_in (P : Int → Bool) (q : Int → Int) (n : Int) : -2147483648 ≤ pSetQ P q n ∧ pSetQ P q n ≤ 2147483647 := by
  unfold pSetQ
  generalize n.toNat = k
  induction k with
  | zero => exact ⟨by show (-2147483648 : Int) ≤ 0; decide, by show (0 : Int) ≤ 2147483647; decide⟩
  | succ k ih =>
    rw [pF]
    by_cases h : P k = true
    · rw [if_pos h]; exact p_or_in _ _
    · rw [if_neg h]; exact ih
theorem pSetQ_test (P : Int → Bool) (q : Int → Int) : ∀ (k : Nat), (∀ j : Nat, j < k → P j = true → 0 ≤ q j ∧ q j < 32) → ∀ i : Nat, i < 32 → (pTest (pSetQ P q k) i = true ↔ ∃ j : Nat, j < k ∧ P j = true ∧ q j = i) := by
  intro k
  induction k with
  | zero =>
    intro _ i hi
    have : pSetQ P q ((0 : Nat) : Int) = 0 := rfl
    rw [this, pT_0]
    simp
  | succ k ih =>
    intro hq i hi
    have h1 := ih (fun j hj => hq j (by omega)) i hi
    rw [show ((k + 1 : Nat) : Int) = (k : Int) + 1 from by omega, pSetQ_next P q (by omega)]
    by_cases h : P k = true
    · have hk := hq k (by omega) h
      have hs := pT_shl (q k).toNat (by omega) i hi
      rw [show (((q k).toNat : Nat) : Int) = q k from by omega] at hs
      rw [if_pos h, pT_or, Bool.or_eq_true, h1, hs, decide_eq_true_iff]
      constructor
      · rintro (⟨j, a, b, c⟩ | a)
        · exact ⟨j, by omega, b, c⟩
        · exact ⟨k, by omega, h, by omega⟩
      · rintro ⟨j, a, b, c⟩
        by_cases e : j = k
        · subst e; exact Or.inr (by omega)
        · exact Or.inl ⟨j, by omega, b, c⟩
    · rw [if_neg h, h1]
      constructor
      · rintro ⟨j, a, b, c⟩
        exact ⟨j, by omega, b, c⟩
      · rintro ⟨j, a, b, c⟩
        refine ⟨j, ?_, b, c⟩
        have : j ≠ k := fun e => h (by rw [← e]; exact b)
        omega
theorem pSet_Q (P : Int → Bool) (n : Int) : pSet P n = pSetQ P id n := rfl
abbrev pOw (w : Int → Int) (p c i : Int) : Bool := decide (pl w i c = p)
theorem q_owes {C M : am_M} (hI : Inv C M) (p a : Int) : Pair C M 208 96 [.inl p, .inl a] := by
  have hR := hI.1.1
  have hw := hI.1.2.1
  have n1 := hw.1.1
  have n2 := hw.1.2.1
  have s2 : M 1 3 = M 187 1 := R_ln hR
  generalize hc : (if a = 0 then (2 : Int) else 1) = c
  have hc2 : 0 ≤ c ∧ c < 5 := by
    rw [← hc]
    by_cases q : a = 0
    · rw [if_pos q]; omega
    · rw [if_neg q]; omega
  have cl : ∀ (k : Nat) (i : Int), i = M 187 1 - k → 0 ≤ i → am_L 999 208 22 [some (.inr 0), some (.inl p), some (.inl a), some (.inl c), some (.inl (pSetQ (pOw (M 187) p c) (fun i => pl (M 187) i 0) i)), some (.inl i)] [] M = some (pSetQ (pOw (M 187) p c) (fun i => pl (M 187) i 0) (M 187 1), M) := by
    intro k
    induction k with
    | zero =>
      intro i hi h0
      rw [e208_22, s2, if_neg (by omega), show i = M 187 1 from by omega]
    | succ k ih =>
      intro i hi h0
      have next := ih (i + 1) (by omega) (by omega)
      rw [pSetQ_next _ _ h0] at next
      rw [e208_22, s2, if_pos (by omega), c142 _ ho1 hR (by omega) hc2, p_b, c142 _ ho1 hR (by omega) (by omega), p_b, p_w (x := i + 1) (by omega) (by omega)]
      by_cases h : pl (M 187) i c = p
      · rw [if_pos h]
        rw [if_pos (decide_eq_true h)] at next
        exact next
      · rw [if_neg h]
        rw [if_neg (fun q => h (of_decide_eq_true q))] at next
        exact next
  have ml : ∀ (k : Nat) (i : Int), i = M 187 1 - k → 0 ≤ i → am_L 999 96 15 [some (.inr 186), some (.inl p), some (.inl a), some (.inl (pSetQ (pOw (M 187) p c) (fun i => pl (M 187) i 0) i)), some (.inl i)] [] M = some (pSetQ (pOw (M 187) p c) (fun i => pl (M 187) i 0) (M 187 1), M) := by
    intro k
    induction k with
    | zero =>
      intro i hi h0
      rw [e96_15, p_c (by omega), if_neg (by omega), show i = M 187 1 from by omega]
    | succ k ih =>
      intro i hi h0
      have next := ih (i + 1) (by omega) (by omega)
      rw [pSetQ_next _ _ h0] at next
      rw [e96_15, p_c (by omega), if_pos (by omega), m7 _ _ _ _ (by omega) (by omega), p_b, m7 _ _ _ _ (by omega) (by omega), p_b, m7 _ _ _ _ (by omega) (by omega), p_b, m7 _ _ _ _ (by omega) (by omega), p_b, p_w (x := i + 1) (by omega) (by omega), p_or0 (pSetQ_in _ _ _)]
      by_cases q : a = 0
      · rw [if_pos q] at hc
        rw [if_pos q]
        subst hc
        by_cases h : pl (M 187) i 2 = p
        · rw [if_pos h]
          rw [if_pos (decide_eq_true h)] at next
          exact next
        · rw [if_neg h]
          rw [if_neg (fun q => h (of_decide_eq_true q))] at next
          exact next
      · rw [if_neg q] at hc
        rw [if_neg q]
        subst hc
        by_cases h : pl (M 187) i 1 = p
        · rw [if_pos h]
          rw [if_pos (decide_eq_true h)] at next
          exact next
        · rw [if_neg h]
          rw [if_neg (fun q => h (of_decide_eq_true q))] at next
          exact next
  have C8 := cl (M 187 1).toNat 0 (by omega) (by omega)
  have M8 := ml (M 187 1).toNat 0 (by omega) (by omega)
  have z : pSetQ (pOw (M 187) p c) (fun i => pl (M 187) i 0) 0 = 0 := rfl
  rw [z] at C8 M8
  refine Pair_e (v := if (0 ≤ p ∧ p ≤ M 187 276 - 1) ∧ 0 ≤ a ∧ a ≤ 1 then pSetQ (pOw (M 187) p c) (fun i => pl (M 187) i 0) (M 187 1) else -1) hI ?_ ?_
  · rw [e208, c134 _ ho1 hR, p_b, p_i0]
    by_cases h1 : 0 ≤ p ∧ p ≤ M 187 276 - 1
    · rw [if_pos h1, c253, p_b, p_i0]
      by_cases h2 : 0 ≤ a ∧ a ≤ 1
      · rw [if_pos h2, if_pos (show (0 ≤ p ∧ p ≤ M 187 276 - 1) ∧ 0 ≤ a ∧ a ≤ 1 from ⟨h1, h2⟩)]
        by_cases q : a = 0
        · rw [if_pos q] at hc
          rw [if_pos q]
          subst hc
          exact C8
        · rw [if_neg q] at hc
          rw [if_neg q]
          subst hc
          exact C8
      · rw [if_neg h2, if_neg (fun q => h2 q.2)]
    · rw [if_neg h1, if_neg (fun q => h1 q.1)]
  · rw [e96, m8 _ _ _ n2, p_b, p_i0]
    by_cases h1 : 0 ≤ p ∧ p ≤ M 187 276 - 1
    · rw [if_pos h1, m0, p_b, p_i0]
      by_cases h2 : 0 ≤ a ∧ a ≤ 1
      · rw [if_pos h2, if_pos (show (0 ≤ p ∧ p ≤ M 187 276 - 1) ∧ 0 ≤ a ∧ a ≤ 1 from ⟨h1, h2⟩)]
        exact M8
      · rw [if_neg h2, if_neg (fun q => h2 q.2)]
    · rw [if_neg h1, if_neg (fun q => h1 q.1)]
