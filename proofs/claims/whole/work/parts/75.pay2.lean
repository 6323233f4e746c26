/-! PURE: who does which work: the model's, and both -/
theorem p256 {n : Int} (hn : 0 ≤ n ∧ n ≤ 8) : 1 ≤ am_ishl 1 n ∧ am_ishl 1 n ≤ 256 := by
  have hs := pShl_n (n := n) (by omega)
  refine ⟨hs.2.1, ?_⟩
  have : ∀ k : Nat, k ≤ 8 → (2 : Int) ^ k ≤ 256 := by decide +kernel
  rw [hs.1]
  exact this _ (by omega)
theorem pBit0 {p t : Int} (hp : 0 ≤ p ∧ p < 32) {α : Type} (x y : α) : (if am_iand (am_ishr t p) 1 = 0 then x else y) = if pTest t p.toNat = false then x else y := by
  rw [pT_bitI hp]
  cases pTest t p.toNat <;> rfl
theorem m101_53 (d : Nat) {M M' : am_M} (hw : WF (M 187)) (hW : TxW (M 187)) (e7 : M' 187 = M 187) {i t : Int} (hi : 0 ≤ i ∧ i < M 187 287) (ht : 0 ≤ t ∧ t < am_ishl 1 (M 187 276)) (hT : pTab M' 197 (M 187) (i + 1)) : ∀ (k : Nat) (p : Int), p = M 187 276 - k → 0 ≤ p → ∃ o4 o5, am_L (d + 4) 101 53 [some (.inr 186), some (.inl (am_ishl 1 (M 187 276))), some (.inl i), some (.inl t), some (.inl (pPyF (M 187) i t p)), some (.inl p)] [] M' = am_L (d + 4) 101 37 [some (.inr 186), some (.inl (am_ishl 1 (M 187 276))), some (.inl i), some (.inl (t + 1)), some (.inl o4), some (.inl o5)] [] (p_st M' 197 (p_up (M' 197) (256 * i + t) (pPy (M 187) i t))) := by
  have n2 := hw.1.2.1
  have n3 := hW.2.2.1
  have hs := p256 n2
  intro k
  induction k with
  | zero =>
    intro p hp h0
    obtain rfl : p = M 187 276 := by omega
    rw [e101_53, p_c (by omega), e7, if_neg (by omega), p_w (x := 256 * i) (by omega) (by omega), p_w (x := 256 * i + t) (by omega) (by omega), p_c (by omega), p_w (x := t + 1) (by omega) (by omega), p_upd, pPy_step hi.2 t]
    exact ⟨_, _, rfl⟩
  | succ k ih =>
    intro p hp h0
    have next := ih (p + 1) (by omega) (by omega)
    rw [pPyF_next _ _ _ h0] at next
    have ho := pOr_in n2 ht (p := p) (by omega)
    rw [e101_53, p_c (by omega), e7, if_pos (by omega), pBit0 (by omega), p_w (x := p + 1) (by omega) (by omega)]
    unfold pPf at next
    by_cases q : pTest t p.toNat = false
    · rw [if_pos q, m99 _ _ _ _ (by rw [e7]; exact hw) (by rw [e7]; exact hW) (by rw [e7]; exact hi), p_b, p_i0, e7]
      by_cases q2 : pDo (M 187) p i = true
      · rw [if_pos ⟨q, q2⟩] at next
        rw [if_pos q2, p_w (x := 4 * i) (by omega) (by omega), p_w (x := 372 + 4 * i) (by omega) (by omega), p_w (x := 372 + 4 * i + 2) (by omega) (by omega), p_w (x := i + 1) (by omega) (by omega), p_w (x := 256 * (i + 1)) (by omega) (by omega), p_w (x := 256 * (i + 1) + am_ior t (am_ishl 1 p)) (by omega) (by omega), p_c (by omega), p_c (by omega), hT (i + 1) _ (by omega) (by omega) ho.1 ho.2, m2, p_b]
        exact next
      · rw [if_neg (fun z => q2 z.2)] at next
        rw [if_neg q2]
        exact next
    · rw [if_neg (fun z => q z.1)] at next
      rw [if_neg q]
      exact next
theorem m101_37 (d : Nat) {M : am_M} (hw : WF (M 187)) (hW : TxW (M 187)) {i : Int} (hi : 0 ≤ i ∧ i < M 187 287) : ∀ (k : Nat) (t : Int) (o4 o5 : Option am_V) (M' : am_M), t = am_ishl 1 (M 187 276) - k → 0 ≤ t → M' 187 = M 187 → pTab M' 197 (M 187) (i + 1) → (∀ s, 0 ≤ s → s < t → M' 197 (256 * i + s) = pPy (M 187) i s) → (∀ b, b ≠ 197 → M' b = M b) → ∃ x3 o4' o5' M2, am_L (d + 4) 101 37 [some (.inr 186), some (.inl (am_ishl 1 (M 187 276))), some (.inl i), some (.inl t), o4, o5] [] M' = am_L (d + 4) 101 33 [some (.inr 186), some (.inl (am_ishl 1 (M 187 276))), some (.inl (i - 1)), some (.inl x3), o4', o5'] [] M2 ∧ pTab M2 197 (M 187) i ∧ ∀ b, b ≠ 197 → M2 b = M b := by
  have n2 := hw.1.2.1
  have n3 := hW.2.2.1
  have hs := p256 n2
  intro k
  induction k with
  | zero =>
    intro t o4 o5 M' ht t0 e7 hT hD hF
    refine ⟨t, o4, o5, M', ?_, fun j s h1 h2 h3 h4 => ?_, hF⟩
    · rw [e101_37, if_neg (by omega), p_w (x := i + -1) (by omega) (by omega), show i + -1 = i - 1 from by omega]
    · by_cases e : j = i
      · rw [e]; exact hD s h3 (by omega)
      · exact hT j s (by omega) h2 h3 h4
  | succ k ih =>
    intro t o4 o5 M' ht t0 e7 hT hD hF
    obtain ⟨p4, p5, hi'⟩ := m101_53 d hw hW e7 hi (t := t) (by omega) hT (M 187 276).toNat 0 (by omega) (by omega)
    have z : pPyF (M 187) i t 0 = pPy (M 187) (i + 1) t := rfl
    rw [z] at hi'
    rw [e101_37, if_pos (by omega), p_w (x := i + 1) (by omega) (by omega), p_w (x := 256 * (i + 1)) (by omega) (by omega), p_w (x := 256 * (i + 1) + t) (by omega) (by omega), p_c (by omega), hT (i + 1) t (by omega) (by omega) t0 (by omega), hi']
    refine ih (t + 1) _ _ _ (by omega) (by omega) (by rw [p_st2 (by decide)]; exact e7) (fun j s h1 h2 h3 h4 => ?_) (fun s h3 h4 => ?_) (fun b hb => ?_)
    · rw [p_st1, p_up2 (by omega)]; exact hT j s h1 h2 h3 h4
    · rw [p_st1]
      by_cases e : s = t
      · rw [e, p_up1]
      · rw [p_up2 (by omega)]; exact hD s h3 (by omega)
    · rw [p_st2 hb]; exact hF b hb
theorem pPyF_attained (w : Int → Int) (i t : Int) : ∀ k : Nat, pPyF w i t k = pPy w (i + 1) t ∨ ∃ j : Nat, j < k ∧ pTest t j = false ∧ pDo w j i = true ∧ am_wrap (w (372 + 4 * i + 2) + pPy w (i + 1) (am_ior t (am_ishl 1 j))) = pPyF w i t k := by
  intro k
  induction k with
  | zero => exact Or.inl rfl
  | succ k ih =>
    rw [show ((k + 1 : Nat) : Int) = (k : Int) + 1 from by omega, pPyF_next _ _ _ (by omega)]
    unfold pPf
    by_cases q : pTest t (k : Int).toNat = false ∧ pDo w k i = true
    · rw [if_pos q]
      rw [Int.toNat_natCast] at q
      by_cases c : pPyF w i t k ≤ am_wrap (w (372 + 4 * i + 2) + pPy w (i + 1) (am_ior t (am_ishl 1 k)))
      · exact Or.inr ⟨k, by omega, q.1, q.2, by omega⟩
      · rw [show max (pPyF w i t k) (am_wrap (w (372 + 4 * i + 2) + pPy w (i + 1) (am_ior t (am_ishl 1 k)))) = pPyF w i t k from by omega]
        rcases ih with h | ⟨j, h1, h2, h3, h4⟩
        · exact Or.inl h
        · exact Or.inr ⟨j, by omega, h2, h3, h4⟩
    · rw [if_neg q]
      rcases ih with h | ⟨j, h1, h2, h3, h4⟩
      · exact Or.inl h
      · exact Or.inr ⟨j, by omega, h2, h3, h4⟩
theorem m102 (d : Nat) {M : am_M} (hw : WF (M 187)) (hW : TxW (M 187)) (hT : pTab M 197 (M 187) 0) {i t : Int} (hi : 0 ≤ i ∧ i < M 187 287) (ht : 0 ≤ t ∧ t < am_ishl 1 (M 187 276)) : am_run (d + 5) 102 [.inr 186, .inl i, .inl t] M = some (pWk (M 187) i t, M) := by
  have n2 := hw.1.2.1
  have n3 := hW.2.2.1
  have hs := p256 n2
  have lp : ∀ (k : Nat) (p : Int), p = M 187 276 - k → 0 ≤ p → (∃ j : Nat, j < k ∧ pWkr (M 187) i t (p + j) = true) → am_L (d + 4) 102 25 [some (.inr 186), some (.inl i), some (.inl t), some (.inl (pPy (M 187) i t)), some (.inl p)] [] M = some (p_find (pWkr (M 187) i t) 1 k p, M) := by
    intro k
    induction k with
    | zero =>
      intro p hp h0 ⟨j, h1, _⟩
      omega
    | succ k ih =>
      intro p hp h0 ⟨j, h1, h2⟩
      have next : ¬ pWkr (M 187) i t p = true → am_L (d + 4) 102 25 [some (.inr 186), some (.inl i), some (.inl t), some (.inl (pPy (M 187) i t)), some (.inl (p + 1))] [] M = some (p_find (pWkr (M 187) i t) 1 k (p + 1), M) := by
        intro z
        have hj : j ≠ 0 := fun e => z (by rw [e] at h2; simpa using h2)
        exact ih (p + 1) (by omega) (by omega) ⟨j - 1, by omega, by rw [show p + 1 + ((j - 1 : Nat) : Int) = p + j from by omega]; exact h2⟩
      have ho := pOr_in n2 ht (p := p) (by omega)
      rw [e102_25, pT_bitI (by omega), p_i1, p_w (x := p + 1) (by omega) (by omega), p_find]
      by_cases q : pTest t p.toNat = true
      · have z : ¬ pWkr (M 187) i t p = true := fun z => by rw [(of_decide_eq_true z).1] at q; cases q
        rw [if_pos q, if_neg z]
        exact next z
      · rw [if_neg q, m99 _ _ _ _ hw hW hi, p_b, p_i0]
        by_cases q2 : pDo (M 187) p i = true
        · rw [if_pos q2, p_w (x := 4 * i) (by omega) (by omega), p_w (x := 372 + 4 * i) (by omega) (by omega), p_w (x := 372 + 4 * i + 2) (by omega) (by omega), p_w (x := i + 1) (by omega) (by omega), p_w (x := 256 * (i + 1)) (by omega) (by omega), p_w (x := 256 * (i + 1) + am_ior t (am_ishl 1 p)) (by omega) (by omega), p_c (by omega), p_c (by omega), hT (i + 1) _ (by omega) (by omega) ho.1 ho.2]
          by_cases q3 : am_wrap (M 187 (372 + 4 * i + 2) + pPy (M 187) (i + 1) (am_ior t (am_ishl 1 p))) = pPy (M 187) i t
          · rw [if_pos q3, if_pos (show pWkr (M 187) i t p = true from decide_eq_true ⟨by simpa using q, q2, q3⟩)]
          · have z : ¬ pWkr (M 187) i t p = true := fun z => q3 (of_decide_eq_true z).2.2
            rw [if_neg q3, if_neg z]
            exact next z
        · have z : ¬ pWkr (M 187) i t p = true := fun z => q2 (of_decide_eq_true z).2.1
          rw [if_neg q2, if_neg z]
          exact next z
  rw [e102, p_w (x := 256 * i) (by omega) (by omega), p_w (x := 256 * i + t) (by omega) (by omega), p_w (x := i + 1) (by omega) (by omega), p_w (x := 256 * (i + 1)) (by omega) (by omega), p_w (x := 256 * (i + 1) + t) (by omega) (by omega), p_c (by omega), p_c (by omega), hT (i + 1) t (by omega) (by omega) ht.1 ht.2, hT i t (by omega) (by omega) ht.1 ht.2]
  unfold pWk
  by_cases h : pPy (M 187) (i + 1) t = pPy (M 187) i t
  · rw [if_pos h, if_pos h]
  · rw [if_neg h, if_neg h]
    refine lp (M 187 276).toNat 0 (by omega) (by omega) ?_
    have at2 := pPyF_attained (M 187) i t (M 187 276).toNat
    rw [show (((M 187 276).toNat : Nat) : Int) = M 187 276 from by omega, ← pPy_step hi.2 t] at at2
    rcases at2 with z | ⟨j, h1, h2, h3, h4⟩
    · exact absurd z.symm h
    · exact ⟨j, h1, decide_eq_true (by rw [Int.zero_add, Int.toNat_natCast]; exact ⟨h2, h3, h4⟩)⟩
theorem m101 (d : Nat) {M : am_M} (hw : WF (M 187)) (hW : TxW (M 187)) : ∃ M', am_run (d + 6) 101 [.inr 186] M = some (0, M') ∧ pTab M' 197 (M 187) 0 ∧ (∀ i, 0 ≤ i → i < M 187 287 → M' 198 i = (pDr (M 187) (i + 1)).2) ∧ ∀ b, b ≠ 197 → b ≠ 198 → M' b = M b := by
  have n2 := hw.1.2.1
  have n3 := hW.2.2.1
  have hs := p256 n2
  -- the last loop: the workers
  have l3 : ∀ (o4 o5 : Option am_V) (M1 : am_M), pTab M1 197 (M 187) 0 → (∀ b, b ≠ 197 → M1 b = M b) → ∀ (k : Nat) (i : Int) (g : Int → Int), i = M 187 287 - k → 0 ≤ i → (∀ j, 0 ≤ j → j < i → g j = (pDr (M 187) (j + 1)).2) → ∃ g', am_L (d + 5) 101 117 [some (.inr 186), some (.inl (am_ishl 1 (M 187 276))), some (.inl (pDr (M 187) i).1), some (.inl i), o4, o5] [] (p_st M1 198 g) = some (0, p_st M1 198 g') ∧ ∀ j, 0 ≤ j → j < M 187 287 → g' j = (pDr (M 187) (j + 1)).2 := by
    intro o4 o5 M1 hT hF k
    have e7 : M1 187 = M 187 := hF 187 (by decide)
    induction k with
    | zero =>
      intro i g hi h0 hg
      refine ⟨g, ?_, fun j j0 j1 => hg j j0 (by omega)⟩
      rw [e101_117, p_c (by omega), p_st2 (by decide), e7, if_neg (by omega)]
    | succ k ih =>
      intro i g hi h0 hg
      have hin := pDr_in n2 i.toNat
      rw [show ((i.toNat : Nat) : Int) = i from by omega] at hin
      have hm := m102 d (M := p_st M1 198 g) (by rw [p_st2 (by decide), e7]; exact hw) (by rw [p_st2 (by decide), e7]; exact hW) (by intro j s h1 h2 h3 h4; rw [p_st2 (by decide), e7] at h2 h4; rw [p_st2 (by decide), p_st2 (by decide), e7]; exact hT j s h1 h2 h3 h4) (i := i) (t := (pDr (M 187) i).1) (by rw [p_st2 (by decide), e7]; omega) (by rw [p_st2 (by decide), e7]; exact hin)
      rw [p_st2 (by decide), e7] at hm
      have hr := pWk_range (w := M 187) n2.1 i (pDr (M 187) i).1
      have next := ih (i + 1) (p_up g i (pWk (M 187) i (pDr (M 187) i).1)) (by omega) (by omega) (fun j j0 j1 => by
        by_cases e : j = i
        · rw [e, p_up1, pDr_next _ h0]; rfl
        · rw [p_up2 (by omega)]; exact hg j j0 (by omega))
      rw [pDr_next _ h0] at next
      unfold pDr1 at next
      rw [e101_117, p_c (by omega), p_st2 (show (187 : Nat) ≠ 198 by decide), e7, if_pos (by omega), hm, p_b, p_c (by omega), p_c (by omega), p_upd, p_st1, p_st3, p_st1, p_up1, p_w (x := i + 1) (by omega) (by omega)]
      rcases hr with q | q
      · rw [if_pos q] at next
        have e0 : am_ior (pDr (M 187) i).1 0 = (pDr (M 187) i).1 := p_or0 (by omega)
        rw [if_pos q, e0]
        exact next
      · rw [if_neg (show ¬ pWk (M 187) i (pDr (M 187) i).1 = -1 by omega)] at next
        rw [if_neg (show ¬ pWk (M 187) i (pDr (M 187) i).1 = -1 by omega), p_c (by omega)]
        exact next
  -- the tables, from the last work on
  have l2 : ∀ (k : Nat) (i x3 : Int) (o3 o4 o5 : Option am_V) (M1 : am_M), i = k - 1 → i < M 187 287 → pTab M1 197 (M 187) (i + 1) → (∀ b, b ≠ 197 → M1 b = M b) → ∃ M', am_L (d + 5) 101 33 [some (.inr 186), some (.inl (am_ishl 1 (M 187 276))), some (.inl i), o3, o4, o5] [] M1 = some (0, M') ∧ pTab M' 197 (M 187) 0 ∧ (∀ i, 0 ≤ i → i < M 187 287 → M' 198 i = (pDr (M 187) (i + 1)).2) ∧ ∀ b, b ≠ 197 → b ≠ 198 → M' b = M b := by
    intro k
    induction k with
    | zero =>
      intro i x3 o3 o4 o5 M1 hi hi2 hT hF
      rw [show i + 1 = 0 from by omega] at hT
      obtain ⟨g, h1, h2⟩ := l3 o4 o5 M1 hT hF (M 187 287).toNat 0 (M1 198) (by omega) (by omega) (fun j j0 j1 => by omega)
      rw [p_st5] at h1
      refine ⟨p_st M1 198 g, ?_, ?_, ?_, ?_⟩
      · rw [e101_33, if_pos (by omega)]
        exact h1
      · intro j s k1 k2 k3 k4
        rw [p_st2 (by decide)]; exact hT j s k1 k2 k3 k4
      · intro j j0 j1
        rw [p_st1]; exact h2 j j0 j1
      · intro b b1 b2
        rw [p_st2 b2]; exact hF b b1
    | succ k ih =>
      intro i x3 o3 o4 o5 M1 hi hi2 hT hF
      obtain ⟨x, p4, p5, M2, h1, h2, h3⟩ := m101_37 (d + 1) hw hW (i := i) (by omega) (am_ishl 1 (M 187 276)).toNat 0 o4 o5 M1 (by omega) (by omega) (hF 187 (by decide)) hT (fun s s0 s1 => by omega) hF
      rw [e101_33, if_neg (by omega), h1]
      exact ih (i - 1) x _ _ _ M2 (by omega) (by omega) (by rw [show i - 1 + 1 = i from by omega]; exact h2) h3
  have l1 : ∀ (k : Nat) (t : Int) (g : Int → Int), t = am_ishl 1 (M 187 276) - k → 0 ≤ t → (∀ s, 0 ≤ s → s < t → g (256 * M 187 287 + s) = 0) → ∃ g', am_L (d + 5) 101 9 [some (.inr 186), some (.inl (am_ishl 1 (M 187 276))), some (.inl t), none, none, none] [] (p_st M 197 g) = am_L (d + 5) 101 33 [some (.inr 186), some (.inl (am_ishl 1 (M 187 276))), some (.inl (M 187 287 - 1)), none, none, none] [] (p_st M 197 g') ∧ ∀ s, 0 ≤ s → s < am_ishl 1 (M 187 276) → g' (256 * M 187 287 + s) = 0 := by
    intro k
    induction k with
    | zero =>
      intro t g ht t0 hg
      refine ⟨g, ?_, fun s s0 s1 => hg s s0 (by omega)⟩
      rw [e101_9, if_neg (by omega), p_c (by omega), p_st2 (by decide), p_w (by omega) (by omega)]
    | succ k ih =>
      intro t g ht t0 hg
      rw [e101_9, if_pos (by omega), p_c (by omega), p_st2 (show (187 : Nat) ≠ 197 by decide), p_w (x := 256 * M 187 287) (by omega) (by omega), p_w (x := 256 * M 187 287 + t) (by omega) (by omega), p_c (by omega), p_w (x := t + 1) (by omega) (by omega), p_upd, p_st1, p_st3]
      refine ih (t + 1) _ (by omega) (by omega) (fun s s0 s1 => ?_)
      by_cases e : s = t
      · rw [e, p_up1]
      · rw [p_up2 (by omega)]; exact hg s s0 (by omega)
  obtain ⟨g, h1, h2⟩ := l1 (am_ishl 1 (M 187 276)).toNat 0 (M 197) (by omega) (by omega) (fun s s0 s1 => by omega)
  rw [p_st5] at h1
  obtain ⟨M', k1, k2, k3, k4⟩ := l2 (M 187 287).toNat (M 187 287 - 1) 0 none none none (p_st M 197 g) (by omega) (by omega) (fun j s j1 j2 s0 s1 => by
    rw [show j = M 187 287 from by omega, p_st1, pPy_end]
    exact h2 s s0 s1) (fun b hb => p_st2 hb)
  refine ⟨M', ?_, k2, k3, k4⟩
  rw [e101, p_c (by omega), h1]
  exact k1
theorem q_pay {C M : am_M} (hI : Inv C M) (a : Int) : Pair C M 225 103 [.inl a] := by
  have hR := hI.1.1
  have hw := hI.1.2.1
  have hW := hI.1.2.2.2.1
  have hX := hI.1.2.2.2.2.1
  have n2 := hw.1.2.1
  have n3 := hW.2.2.1
  have hs := p256 n2
  have eW : M 32 0 = M 187 287 := hX.2.2.1
  have fr : ∀ M', (∀ b, b ≠ 107 → M' b = M b) → WR M' 1 (M 187) ∧ TxR M' 28 (M 187) := fun M' hF => ⟨WR_fr hR (fun b _ _ => hF b (by omega)), TxR_fr hX (fun b _ _ => hF b (by omega))⟩
  have dr := fun i => pDr (M 187) i
  refine Pair_q (v := if a = 0 ∨ (10 ≤ a ∧ a ≤ 9 + M 187 287) then (if a = 0 then pPy (M 187) 0 0 else (pDr (M 187) (a - 10 + 1)).2) else -1) hI ?_ (fun M1 hI1 e1 => ?_)
  · have l2 : (a = 0 ∨ (10 ≤ a ∧ a ≤ 9 + M 187 287)) → ∀ (k : Nat) (i : Int) (M' : am_M), i = k - 1 → i < M 187 287 → pTab M' 107 (M 187) (i + 1) → (∀ b, b ≠ 107 → M' b = M b) → pOk (am_L 999 225 40 [some (.inr 0), some (.inl a), some (.inl (M 187 287)), some (.inl i)] [] M') (fun r M' => r = (if a = 0 then pPy (M 187) 0 0 else (pDr (M 187) (a - 10 + 1)).2) ∧ ∀ b, b ≠ 107 → M' b = M b) := by
      intro ha k
      induction k with
      | zero =>
        intro i M' hi hi2 hT hF
        obtain ⟨f1, f2⟩ := fr M' hF
        rw [show i + 1 = 0 from by omega] at hT
        rw [e225_40, if_pos (by omega)]
        by_cases a0 : a = 0
        · have := hT 0 0 (by omega) (by omega) (by omega) (by omega)
          rw [show (256 : Int) * 0 + 0 = 0 from rfl] at this
          rw [if_pos a0, if_pos a0, p_c (by omega), this]
          exact pOk_s ⟨rfl, hF⟩
        · rw [if_neg a0, if_neg a0, p_w (by omega) (by omega), c228 992 f1 n2 hW f2 hT (by omega), p_b]
          exact pOk_s ⟨rfl, hF⟩
      | succ k ih =>
        intro i M' hi hi2 hT hF
        obtain ⟨f1, f2⟩ := fr M' hF
        rw [e225_40, if_neg (by omega), p_w (by omega) (by omega)]
        refine pOk_b (c226 993 f1 n2 hW f2 (i := i) (by omega) hT) (fun _ M2 ⟨h1, h2⟩ => ?_)
        exact ih (i + -1) M2 (by omega) (by omega) (by rw [show i + -1 + 1 = i from by omega]; exact h1) (fun b hb => by rw [h2 b hb]; exact hF b hb)
    have l1 : (a = 0 ∨ (10 ≤ a ∧ a ≤ 9 + M 187 287)) → ∀ (k : Nat) (t : Int) (g : Int → Int), t = am_ishl 1 (M 187 276) - k → 0 ≤ t → (∀ s, 0 ≤ s → s < t → g (256 * M 187 287 + s) = 0) → pOk (am_L 999 225 18 [some (.inr 0), some (.inl a), some (.inl (M 187 287)), some (.inl t)] [] (p_st M 107 g)) (fun r M' => r = (if a = 0 then pPy (M 187) 0 0 else (pDr (M 187) (a - 10 + 1)).2) ∧ ∀ b, b ≠ 107 → M' b = M b) := by
      intro ha k
      induction k with
      | zero =>
        intro t g ht t0 hg
        have s0 : M 1 2 = M 187 276 := R_n hR
        rw [e225_18, p_st2 (show (1 : Nat) ≠ 107 by decide), s0, if_neg (by omega), p_w (by omega) (by omega)]
        refine l2 ha (M 187 287).toNat (M 187 287 - 1) _ (by omega) (by omega) (fun j s j1 j2 s0 s1 => ?_) (fun b hb => p_st2 hb)
        rw [show j = M 187 287 from by omega, p_st1, pPy_end]
        exact hg s s0 (by omega)
      | succ k ih =>
        intro t g ht t0 hg
        have s0 : M 1 2 = M 187 276 := R_n hR
        rw [e225_18, p_st2 (show (1 : Nat) ≠ 107 by decide), s0, if_pos (by omega), pShl8i (by omega), p_w (x := 256 * M 187 287 + t) (by omega) (by omega), p_c (by omega), p_w (x := t + 1) (by omega) (by omega), p_upd, p_st1, p_st3]
        refine ih (t + 1) _ (by omega) (by omega) (fun s s0 s1 => ?_)
        by_cases e : s = t
        · rw [e, p_up1]
        · rw [p_up2 (by omega)]; exact hg s s0 (by omega)
    have go : (a = 0 ∨ (10 ≤ a ∧ a ≤ 9 + M 187 287)) → pOk (am_L 999 225 18 [some (.inr 0), some (.inl a), some (.inl (M 187 287)), some (.inl 0)] [] M) (fun r M' => r = (if a = 0 ∨ (10 ≤ a ∧ a ≤ 9 + M 187 287) then (if a = 0 then pPy (M 187) 0 0 else (pDr (M 187) (a - 10 + 1)).2) else -1) ∧ CQ M M') := by
      intro ha
      have := l1 ha (am_ishl 1 (M 187 276)).toNat 0 (M 107) (by omega) (by omega) (fun s s0 s1 => by omega)
      rw [p_st5] at this
      rw [if_pos ha]
      exact pOk_m this (fun r M' ⟨h1, h2⟩ => ⟨h1, fun b _ _ _ h7 => h2 b h7⟩)
    rw [e225, eW]
    by_cases a0 : a = 0
    · rw [if_pos a0]
      exact go (Or.inl a0)
    · rw [if_neg a0, p_w (by omega) (by omega), c253, p_b, p_i0]
      by_cases h1 : 10 ≤ a ∧ a ≤ 9 + M 187 287
      · rw [if_pos h1]
        exact go (Or.inr h1)
      · rw [if_neg h1, if_neg (fun q => q.elim a0 h1)]
        exact pOk_s ⟨rfl, CQ_refl _⟩
  · rw [← e1] at hw hW n2 n3 hs ⊢
    obtain ⟨M', k1, k2, k3, k4⟩ := m101 993 hw hW
    have hq : pMQ M1 M' := ⟨fun b h1 h2 h3 => k4 b (by omega) (by omega), fun f hf => by rw [k4 186 (by decide) (by decide)]⟩
    have e0 : M' 197 0 = pPy (M1 187) 0 0 := by
      have := k2 0 0 (by omega) (by omega) (by omega) (by omega)
      rwa [show (256 : Int) * 0 + 0 = 0 from rfl] at this
    rw [e103]
    by_cases a0 : a = 0
    · rw [if_pos a0, k1, p_b, if_pos a0, if_pos (Or.inl a0), if_pos a0, p_c (by omega), e0]
      exact pOk_s ⟨rfl, hq⟩
    · rw [if_neg a0, p_c (by omega), p_w (x := 9 + M1 187 287) (by omega) (by omega), m0, p_b, p_i0]
      by_cases h1 : 10 ≤ a ∧ a ≤ 9 + M1 187 287
      · rw [if_pos h1, k1, p_b, if_neg a0, if_pos (Or.inr h1), if_neg a0, p_w (by omega) (by omega), p_c (by omega), k3 _ (by omega) (by omega)]
        exact pOk_s ⟨rfl, hq⟩
      · rw [if_neg h1, if_neg (fun q => q.elim a0 h1)]
        exact pOk_s ⟨rfl, pMQ_refl _⟩
