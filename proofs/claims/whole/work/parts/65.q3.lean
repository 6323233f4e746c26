/-! PURE: questions, on -/
def pCal (w : Int → Int) (n : Int) : Int := pF (fun h b => if ph w h 8 = h / 2 then b else if b = -1 then h else if ph w b 4 < ph w h 4 then h else b) n.toNat (-1)
theorem pCal_next (w : Int → Int) {i : Int} (h : 0 ≤ i) : pCal w (i + 1) = if ph w i 8 = i / 2 then pCal w i else if pCal w i = -1 then i else if ph w (pCal w i) 4 < ph w i 4 then i else pCal w i := (pF_next (fun h b => if ph w h 8 = h / 2 then b else if b = -1 then h else if ph w b 4 < ph w h 4 then h else b) (-1) h).symm
theorem pCal_range (w : Int → Int) : ∀ k : Nat, pCal w k = -1 ∨ (0 ≤ pCal w k ∧ pCal w k < k) := by
  intro k
  induction k with
  | zero => exact Or.inl rfl
  | succ k ih =>
    rw [show ((k + 1 : Nat) : Int) = (k : Int) + 1 from by omega, pCal_next w (by omega)]
    split
    · omega
    · split
      · omega
      · split
        · omega
        · omega
theorem q_callus {C M : am_M} (hI : Inv C M) : Pair C M 209 97 [] := by
  have hR := hI.1.1
  have hw := hI.1.2.1
  have n2 := hw.1.2.1
  have s0 : M 1 2 = M 187 276 := R_n hR
  have cl : ∀ (k : Nat) (i : Int), i = 2 * M 187 276 - k → 0 ≤ i → am_L 999 209 4 [some (.inr 0), some (.inl (pCal (M 187) i)), some (.inl i)] [] M = some (pCal (M 187) (2 * M 187 276), M) := by
    intro k
    induction k with
    | zero =>
      intro i hi h0
      rw [e209_4, s0, p_w (by omega) (by omega), if_neg (by omega), show i = 2 * M 187 276 from by omega]
    | succ k ih =>
      intro i hi h0
      have next := ih (i + 1) (by omega) (by omega)
      have hr := pCal_range (M 187) i.toNat
      rw [show ((i.toNat : Nat) : Int) = i from by omega] at hr
      rw [pCal_next _ h0] at next
      have ew : M 9 i = ph (M 187) i 4 := R_wear hR h0 (by omega)
      rw [e209_4, s0, p_w (x := 2 * M 187 276) (by omega) (by omega), if_pos (by omega), c139 _ ho1 hR (by omega), p_b, p_i0, p_w (x := i + 1) (by omega) (by omega)]
      by_cases h : ph (M 187) i 8 = i / 2
      · rw [if_pos h] at next ⊢
        exact next
      · rw [if_neg h] at next ⊢
        by_cases h1 : pCal (M 187) i = -1
        · rw [if_pos h1] at next ⊢
          exact next
        · have ew2 : M 9 (pCal (M 187) i) = ph (M 187) (pCal (M 187) i) 4 := R_wear hR (by omega) (by omega)
          rw [if_neg h1] at next ⊢
          rw [p_c (by omega), p_c (by omega), ew, ew2]
          by_cases h2 : ph (M 187) (pCal (M 187) i) 4 < ph (M 187) i 4
          · rw [if_pos h2] at next ⊢
            exact next
          · rw [if_neg h2] at next ⊢
            exact next
  have ml : ∀ (k : Nat) (i : Int), i = 2 * M 187 276 - k → 0 ≤ i → am_L 999 97 4 [some (.inr 186), some (.inl (pCal (M 187) i)), some (.inl i)] [] M = some (pCal (M 187) (2 * M 187 276), M) := by
    intro k
    induction k with
    | zero =>
      intro i hi h0
      rw [e97_4, p_c (by omega), p_w (by omega) (by omega), if_neg (by omega), show i = 2 * M 187 276 from by omega]
    | succ k ih =>
      intro i hi h0
      have next := ih (i + 1) (by omega) (by omega)
      have hr := pCal_range (M 187) i.toNat
      rw [show ((i.toNat : Nat) : Int) = i from by omega] at hr
      rw [pCal_next _ h0] at next
      rw [e97_4, p_c (by omega), p_w (x := 2 * M 187 276) (by omega) (by omega), if_pos (by omega), m5 _ _ _ _ (by omega) (by omega), p_b, m13 _ _ _ (by omega), p_b, p_w (x := i + 1) (by omega) (by omega)]
      by_cases h : ph (M 187) i 8 = i / 2
      · rw [if_pos h] at next ⊢
        exact next
      · rw [if_neg h] at next ⊢
        by_cases h1 : pCal (M 187) i = -1
        · rw [if_pos h1] at next ⊢
          exact next
        · rw [if_neg h1] at next ⊢
          rw [m5 _ _ _ _ (by omega) (by omega), p_b, m5 _ _ _ _ (by omega) (by omega), p_b]
          by_cases h2 : ph (M 187) (pCal (M 187) i) 4 < ph (M 187) i 4
          · rw [if_pos h2] at next ⊢
            exact next
          · rw [if_neg h2] at next ⊢
            exact next
  exact Pair_e hI ((e209 _ _).trans (cl (2 * M 187 276).toNat 0 (by omega) (by omega))) ((e97 _ _).trans (ml (2 * M 187 276).toNat 0 (by omega) (by omega)))
def pCh (w : Int → Int) (h i : Int) : Nat → Int → Int → Int
  | 0, _, _ => -1
  | k + 1, l, e => if pl w l 0 = h then (if e = i then pl w l 1 else pCh w h i k (l + 1) (e + 1)) else pCh w h i k (l + 1) e
theorem pCh_none (w : Int → Int) (h i : Int) : ∀ (k : Nat) (l e : Int), pCnt (fun i => decide (pl w i 0 = h)) k l e ≤ i → pCh w h i k l e = -1 := by
  intro k
  induction k with
  | zero => intro _ _ _; rfl
  | succ k ih =>
    intro l e hk
    rw [pCnt] at hk
    rw [pCh]
    by_cases q : pl w l 0 = h
    · rw [if_pos (decide_eq_true q)] at hk
      have := pCnt_le (fun i => decide (pl w i 0 = h)) k (l + 1) (e + 1)
      rw [if_pos q, if_neg (by omega)]
      exact ih _ _ hk
    · rw [if_neg (fun z => q (of_decide_eq_true z))] at hk
      rw [if_neg q]
      exact ih _ _ hk
theorem q_chain {C M : am_M} (hI : Inv C M) (h a : Int) : Pair C M 207 95 [.inl h, .inl a] := by
  have hR := hI.1.1
  have hw := hI.1.2.1
  have n1 := hw.1.1
  have n2 := hw.1.2.1
  have s2 : M 1 3 = M 187 1 := R_ln hR
  have cl : 0 ≤ a → ∀ (k : Nat) (l e : Int), l = M 187 1 - k → 0 ≤ l → 0 ≤ e → e ≤ l → am_L 999 207 13 [some (.inr 0), some (.inl h), some (.inl a), some (.inl e), some (.inl l)] [] M = some (pCh (M 187) h a k l e, M) := by
    intro ha k
    induction k with
    | zero =>
      intro l e hl h0 h1 h2
      rw [e207_13, s2, if_neg (by omega)]
      rfl
    | succ k ih =>
      intro l e hl h0 h1 h2
      rw [e207_13, s2, if_pos (by omega), c142 _ ho1 hR (by omega) (by omega), p_b, c142 _ ho1 hR (by omega) (by omega), p_b, p_w (x := l + 1) (by omega) (by omega), p_w (x := e + 1) (by omega) (by omega), pCh]
      by_cases q : pl (M 187) l 0 = h
      · rw [if_pos q, if_pos q]
        by_cases q2 : e = a
        · rw [if_pos q2, if_pos q2]
        · rw [if_neg q2, if_neg q2]
          exact ih _ _ (by omega) (by omega) (by omega) (by omega)
      · rw [if_neg q, if_neg q]
        exact ih _ _ (by omega) (by omega) (by omega) (by omega)
  have ml : ∀ (k : Nat) (l e : Int), l = M 187 1 - k → 0 ≤ l → 0 ≤ e → e ≤ l → e ≤ a → a < pCnt (fun i => decide (pl (M 187) i 0 = h)) k l e → am_L 999 95 19 [some (.inr 186), some (.inl h), some (.inl a), some (.inl e), some (.inl l)] [] M = some (pCh (M 187) h a k l e, M) := by
    intro k
    induction k with
    | zero =>
      intro l e hl h0 h1 h2 h3 h4
      rw [pCnt] at h4
      omega
    | succ k ih =>
      intro l e hl h0 h1 h2 h3 h4
      rw [pCnt] at h4
      rw [e95_19, m7 _ _ _ _ (by omega) (by omega), p_b, m7 _ _ _ _ (by omega) (by omega), p_b, m7 _ _ _ _ (by omega) (by omega), p_b, p_w (x := l + 1) (by omega) (by omega), p_w (x := e + 1) (by omega) (by omega), p_w (x := e + 0) (by omega) (by omega), Int.add_zero, pCh]
      by_cases q : pl (M 187) l 0 = h
      · rw [if_pos (decide_eq_true q)] at h4
        simp only [if_pos q]
        by_cases q2 : e = a
        · rw [if_neg (by omega), if_pos q2]
        · rw [if_pos (by omega), if_neg q2]
          exact ih _ _ (by omega) (by omega) (by omega) (by omega) (by omega) h4
      · rw [if_neg (fun z => q (of_decide_eq_true z))] at h4
        simp only [if_neg q]
        exact ih _ _ (by omega) (by omega) (by omega) (by omega) (by omega) h4
  have hcn := pCnt_le (fun i => decide (pl (M 187) i 0 = h)) (M 187 1).toNat 0 0
  refine Pair_e (v := if (0 ≤ h ∧ h ≤ 2 * M 187 276 - 1) ∧ 0 ≤ a then pCh (M 187) h a (M 187 1).toNat 0 0 else -1) hI ?_ ?_
  · rw [e207, c135 _ ho1 hR n2, p_b, p_i0]
    by_cases h1 : 0 ≤ h ∧ h ≤ 2 * M 187 276 - 1
    · rw [if_pos h1]
      by_cases h2 : 0 ≤ a
      · rw [if_neg (by omega), if_pos ⟨h1, h2⟩]
        exact cl h2 _ 0 0 (by omega) (by omega) (by omega) (by omega)
      · rw [if_pos (by omega), if_neg (fun q => h2 q.2)]
    · rw [if_neg h1, if_neg (fun q => h1 q.1)]
  · rw [e95, m9 _ _ _ n2, p_b, p_i0]
    by_cases h1 : 0 ≤ h ∧ h ≤ 2 * M 187 276 - 1
    · have el : pLoans (M 187) h = pCnt (fun i => decide (pl (M 187) i 0 = h)) (M 187 1).toNat 0 0 := rfl
      rw [if_pos h1, m60 _ _ _ n1, p_b, el, p_w (by omega) (by omega), m0, p_b, p_i0]
      by_cases h2 : 0 ≤ a
      · rw [if_pos (show (0 ≤ h ∧ h ≤ 2 * M 187 276 - 1) ∧ 0 ≤ a from ⟨h1, h2⟩)]
        by_cases h3 : a < pCnt (fun i => decide (pl (M 187) i 0 = h)) (M 187 1).toNat 0 0
        · rw [if_pos (by omega)]
          exact ml _ 0 0 (by omega) (by omega) (by omega) (by omega) (by omega) h3
        · rw [if_neg (by omega), pCh_none _ _ _ _ _ _ (by omega)]
      · rw [if_neg (by omega), if_neg (fun q => h2 q.2)]
    · rw [if_neg h1, if_neg (fun q => h1 q.1)]
def pHs (w : Int → Int) (p s k n : Int) : Bool := decide (pOn w p s ≠ -1 ∧ ¬ ph w (pOn w p s) k < n)
theorem m98 (d : Nat) (p s k n : Int) (M : am_M) (hn : 0 ≤ M 187 276 ∧ M 187 276 ≤ 8) (hs : 0 ≤ s ∧ s ≤ 1) (hk : 0 ≤ k ∧ k ≤ 3) : am_run (d + 3) 98 [.inr 186, .inl p, .inl s, .inl k, .inl n] M = some (if pHs (M 187) p s k n = true then 1 else 0, M) := by
  have hr := pOn_range (w := M 187) (p := p) hs hn.1
  rw [e98, m12 _ _ _ _ hn hs, p_b]
  by_cases h : pOn (M 187) p s = -1
  · rw [if_pos h, if_neg (fun q => (of_decide_eq_true q).1 h)]
  · rw [if_neg h, p_w (by omega) (by omega), Int.zero_add, m5 _ _ _ _ (by omega) (by omega), p_b]
    by_cases h2 : ph (M 187) (pOn (M 187) p s) k < n
    · rw [if_pos h2, if_neg (fun q => (of_decide_eq_true q).2 h2)]
    · rw [if_neg h2, if_pos (show pHs (M 187) p s k n = true from decide_eq_true ⟨h, h2⟩)]
abbrev pSp (w : Int → Int) (k n h : Int) : Bool := decide (ph w h 8 ≠ -1 ∧ ¬ ph w h k < n)
abbrev pSp2 (w : Int → Int) (k n p : Int) : Bool := pHs w p 0 k n || pHs w p 1 k n
theorem q_spread {C M : am_M} (hI : Inv C M) (a n : Int) : Pair C M 211 127 [.inl a, .inl n] := by
  have hR := hI.1.1
  have hw := hI.1.2.1
  have n2 := hw.1.2.1
  have s0 : M 1 2 = M 187 276 := R_n hR
  have cl : (0 ≤ a ∧ a ≤ 3) → ∀ (k : Nat) (i : Int) (o5 : Option am_V), i = 2 * M 187 276 - k → 0 ≤ i → am_L 999 211 11 [some (.inr 0), some (.inl a), some (.inl n), some (.inl (pSetQ (pSp (M 187) a n) (fun h => ph (M 187) h 8) i)), some (.inl i), o5] [] M = some (pSetQ (pSp (M 187) a n) (fun h => ph (M 187) h 8) (2 * M 187 276), M) := by
    intro ha k
    induction k with
    | zero =>
      intro i o5 hi h0
      rw [e211_11, s0, p_w (by omega) (by omega), if_neg (by omega), show i = 2 * M 187 276 from by omega]
    | succ k ih =>
      intro i o5 hi h0
      have next := ih (i + 1)
      have ea : M 7 i = ph (M 187) i 8 := R_at hR h0 (by omega)
      have es : M 8 (i * 4 + a) = ph (M 187) i a := R_skill hR h0 (by omega) ha.1 (by omega)
      rw [pSetQ_next _ _ h0] at next
      rw [e211_11, s0, p_w (x := 2 * M 187 276) (by omega) (by omega), if_pos (by omega), p_c (by omega), ea, p_w (x := i * 4) (by omega) (by omega), p_w (x := i * 4 + a) (by omega) (by omega), p_c (by omega), es, p_w (x := i + 1) (by omega) (by omega)]
      by_cases h : ph (M 187) i 8 = -1
      · rw [if_pos h]
        rw [if_neg (fun q => (of_decide_eq_true q).1 h)] at next
        exact next _ (by omega) (by omega)
      · rw [if_neg h]
        by_cases h2 : ph (M 187) i a < n
        · rw [if_pos h2]
          rw [if_neg (fun q => (of_decide_eq_true q).2 h2)] at next
          exact next _ (by omega) (by omega)
        · rw [if_neg h2]
          rw [if_pos (decide_eq_true ⟨h, h2⟩)] at next
          exact next _ (by omega) (by omega)
  have ml : (0 ≤ a ∧ a ≤ 3) → ∀ (k : Nat) (i : Int), i = M 187 276 - k → 0 ≤ i → am_L 999 127 9 [some (.inr 186), some (.inl a), some (.inl n), some (.inl (pSetQ (pSp2 (M 187) a n) id i)), some (.inl i)] [] M = some (pSetQ (pSp2 (M 187) a n) id (M 187 276), M) := by
    intro ha k
    induction k with
    | zero =>
      intro i hi h0
      rw [e127_9, p_c (by omega), if_neg (by omega), show i = M 187 276 from by omega]
    | succ k ih =>
      intro i hi h0
      have next := ih (i + 1) (by omega) (by omega)
      rw [pSetQ_next _ _ h0] at next
      rw [e127_9, p_c (by omega), if_pos (by omega), m98 _ _ _ _ _ _ n2 (by omega) ha, p_b, m98 _ _ _ _ _ _ n2 (by omega) ha, p_b, p_w (x := i + 1) (by omega) (by omega), p_or0 (pSetQ_in _ _ _), p_i0, p_i0]
      by_cases h : pHs (M 187) i 0 a n = true
      · rw [if_pos h]
        rw [if_pos (by simp [h])] at next
        exact next
      · rw [if_neg h]
        by_cases h2 : pHs (M 187) i 1 a n = true
        · rw [if_pos h2]
          rw [if_pos (by simp [h2])] at next
          exact next
        · rw [if_neg h2]
          rw [if_neg (by simp [h, h2])] at next
          exact next
  have same : (0 ≤ a ∧ a ≤ 3) → pSetQ (pSp2 (M 187) a n) id (M 187 276) = pSetQ (pSp (M 187) a n) (fun h => ph (M 187) h 8) (2 * M 187 276) := by
    intro ha
    refine pT_eq (pSetQ_in _ _ _) (pSetQ_in _ _ _) (fun i hi => ?_)
    have t1 := pSetQ_test (pSp2 (M 187) a n) id (M 187 276).toNat (fun j hj _ => by simp only [id]; omega) i hi
    have t2 := pSetQ_test (pSp (M 187) a n) (fun h => ph (M 187) h 8) (2 * M 187 276).toNat (fun j hj hp => by
      have := hw.2.2.1.1 j (by omega) (by omega)
      have h8 := (of_decide_eq_true hp).1
      omega) i hi
    rw [show (((M 187 276).toNat : Nat) : Int) = M 187 276 from by omega] at t1
    rw [show (((2 * M 187 276).toNat : Nat) : Int) = 2 * M 187 276 from by omega] at t2
    have : (∃ j : Nat, j < (M 187 276).toNat ∧ pSp2 (M 187) a n j = true ∧ id (j : Int) = i) ↔ (∃ j : Nat, j < (2 * M 187 276).toNat ∧ pSp (M 187) a n j = true ∧ ph (M 187) j 8 = i) := by
      constructor
      · rintro ⟨j, h1, h2, h3⟩
        have key : ∀ s, 0 ≤ s → s ≤ 1 → pHs (M 187) j s a n = true → ∃ j : Nat, j < (2 * M 187 276).toNat ∧ pSp (M 187) a n j = true ∧ ph (M 187) j 8 = i := by
          intro s s0 s1 hh
          obtain ⟨q1, q2⟩ := of_decide_eq_true hh
          rcases pOn_range (w := M 187) (p := j) ⟨s0, s1⟩ n2.1 with r | ⟨r1, r2, r3, r4⟩
          · exact absurd r q1
          · refine ⟨(pOn (M 187) j s).toNat, by omega, ?_, ?_⟩
            · rw [show (((pOn (M 187) j s).toNat : Nat) : Int) = pOn (M 187) j s from by omega]
              exact decide_eq_true ⟨by rw [r4]; omega, q2⟩
            · rw [show (((pOn (M 187) j s).toNat : Nat) : Int) = pOn (M 187) j s from by omega, r4]
              exact h3
        rcases Bool.or_eq_true .. |>.mp h2 with q | q
        · exact key 0 (by omega) (by omega) q
        · exact key 1 (by omega) (by omega) q
      · rintro ⟨j, h1, h2, h3⟩
        obtain ⟨q1, q2⟩ := of_decide_eq_true h2
        have hat := hw.2.2.1.1 j (by omega) (by omega)
        have on := pOn_is hw.2.2.1 (p := i) (s := (j : Int) % 2) (h := j) (by omega) (by omega) n2.1 (by omega) rfl h3
        refine ⟨i, by omega, ?_, rfl⟩
        have : pHs (M 187) i ((j : Int) % 2) a n = true := decide_eq_true (by rw [on]; exact ⟨by omega, q2⟩)
        rcases (show (j : Int) % 2 = 0 ∨ (j : Int) % 2 = 1 by omega) with z | z
        · rw [z] at this; simp [this]
        · rw [z] at this; simp [this]
    have e := t1.trans (this.trans t2.symm)
    cases h1 : pTest (pSetQ (pSp2 (M 187) a n) id (M 187 276)) i <;> cases h2 : pTest (pSetQ (pSp (M 187) a n) (fun h => ph (M 187) h 8) (2 * M 187 276)) i <;> simp_all
  refine Pair_e (v := if 0 ≤ a ∧ a ≤ 3 then pSetQ (pSp (M 187) a n) (fun h => ph (M 187) h 8) (2 * M 187 276) else -1) hI ?_ ?_
  · rw [e211, c253, p_b, p_i0]
    by_cases c : 0 ≤ a ∧ a ≤ 3
    · rw [if_pos c, if_pos c]
      exact cl c (2 * M 187 276).toNat 0 none (by omega) (by omega)
    · rw [if_neg c, if_neg c]
  · rw [e127, m10, p_b, p_i0]
    by_cases c : 0 ≤ a ∧ a ≤ 3
    · rw [if_pos c, if_pos c, ← same c]
      exact ml c (M 187 276).toNat 0 (by omega) (by omega)
    · rw [if_neg c, if_neg c]
