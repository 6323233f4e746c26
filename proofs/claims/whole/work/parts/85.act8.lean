/-! PURE: acts: the image -/
theorem ho53 : IsW 53 := Or.inr (Or.inr (Or.inl rfl))
theorem m130_9a (d : Nat) (M : am_M) : ∀ (k : Nat) (i : Int), i = 3456 - k → 0 ≤ i → am_L (d + 1) 130 9 [some (.inr 186), some (.inl 0), some (.inl i)] [] (p_st M 187 (pCp (M 187) (M 188) 0 i)) = some (1, p_st (p_st M 187 (pCp (M 187) (M 188) 0 3456)) 186 (p_up (p_up (M 186) 4 0) 5 1)) := by
  intro k
  induction k with
  | zero =>
    intro i hi h0
    obtain rfl : i = 3456 := by omega
    rw [e130_9, if_neg (by omega), if_pos rfl, m14, p_b, p_upd, p_st1, p_st3, p_st2 (by decide)]
  | succ k ih =>
    intro i hi h0
    rw [e130_9, if_pos (by omega), if_pos rfl, p_c (by omega), p_c (by omega), p_w (x := i + 1) (by omega) (by omega), p_upd, p_st1, p_st3, p_st2 (by decide), pCp_up h0 (by omega) rfl]
    exact ih (i + 1) (by omega) (by omega)
theorem m130_9b (d : Nat) (M : am_M) (p : Int) (hp : p ≠ 0) : ∀ (k : Nat) (i : Int), i = 3456 - k → 0 ≤ i → am_L (d + 1) 130 9 [some (.inr 186), some (.inl p), some (.inl i)] [] (p_st M 188 (pCp (M 188) (M 187) 0 i)) = some (1, p_st (p_st M 188 (pCp (M 188) (M 187) 0 3456)) 186 (p_up (M 186) 5 1)) := by
  intro k
  induction k with
  | zero =>
    intro i hi h0
    obtain rfl : i = 3456 := by omega
    rw [e130_9, if_neg (by omega), if_neg hp, p_upd, p_st2 (by decide)]
  | succ k ih =>
    intro i hi h0
    rw [e130_9, if_pos (by omega), if_neg hp, p_c (by omega), p_c (by omega), p_w (x := i + 1) (by omega) (by omega), p_upd, p_st1, p_st3, p_st2 (by decide), pCp_up h0 (by omega) rfl]
    exact ih (i + 1) (by omega) (by omega)
/-- a whole state copied onto another -/
theorem cp_all {M : am_M} (hE : pEnd M) {a b : Nat} (h : (a = 187 ∧ b = 188) ∨ (a = 188 ∧ b = 187)) : ∀ k, 0 ≤ k → pCp (M a) (M b) 0 3456 k = M b k := by
  intro k hk
  by_cases q : k < 3456
  · exact pCp_in (by omega)
  · rw [pCp_out (by omega)]
    have := hE k (by omega)
    rcases h with ⟨rfl, rfl⟩ | ⟨rfl, rfl⟩
    · rw [this.1, this.2]
    · rw [this.1, this.2]
theorem a_image {C M : am_M} (hI : Inv C M) (p : Int) : Pair C M 199 130 [.inl p] := by
  have hI0 := hI
  obtain ⟨⟨a1, a2, a3, a4, a5, a6⟩, ⟨b1, b2, b3, b4⟩, ⟨c1, c2, c3⟩, ⟨d1, d2, d3⟩, ⟨e1, e2⟩, i1, i2⟩ := hI
  by_cases hp : p = 0
  · subst hp
    by_cases hk : M 186 5 = 0
    · refine Pair_e (v := 0) hI0 ?_ ?_
      · rw [e199, if_pos rfl, c1, if_pos hk, hk, p_c (by decide)]
      · rw [e130, if_pos rfl, if_pos hk]
    · have k1 : M 186 5 = 1 := by omega
      obtain ⟨g1, g2, g3, g4, g5, g6⟩ := c3 k1
      have hc : pOk (am_run 1000 199 [.inr 0, .inl 0] M) (fun r M' => r = 1 ∧ WR M' 1 (M 188) ∧ TxR M' 28 (M 188) ∧ (∀ j, 0 ≤ j → j < 400 → M' 52 j = M 90 j) ∧ M' 0 = p_up (M 0) 3 0 ∧ ∀ b, b ≠ 0 → 51 < b → b ≠ 52 → M' b = M b) := by
        rw [e199, if_pos rfl, if_neg (by rw [c1]; exact hk)]
        refine pOk_b (c133 998 ho1 ho53 (by decide) g2.1.2.1.2 g1) (fun _ M1 ⟨_, q1, q2⟩ => ?_)
        refine pOk_b (c159 997 (Or.inl ⟨rfl, rfl⟩) g4 (TxR_fr g5 (fun b _ _ => q2 b (by omega)))) (fun _ M2 ⟨q3, q4⟩ => ?_)
        rw [p_c (by decide), c197, p_b]
        have e0 : M2 0 = M 0 := by rw [q4 0 (by omega), q2 0 (by omega)]
        have e0' : (am_cpy M2 90 0 52 0 400) 0 = M 0 := by rw [p_cp1 (by decide), e0]
        rw [e0', p_st1, p_off (by omega), c1, k1, p_c (by decide)]
        refine pOk_s ⟨rfl, WR_fr q1 (fun b b1 b2 => ?_), TxR_fr q3 (fun b b1 b2 => ?_), fun j j0 j1 => ?_, p_st1 _ _ _, fun b b0 b1 b2 => ?_⟩
        · rw [p_st2 (by omega), p_cp1 (by omega), q4 b (by omega)]
        · rw [p_st2 (by omega), p_cp1 (by omega)]
        · rw [p_st2 (by omega), p_cp2 j0 j1, q4 90 (by omega), q2 90 (by omega)]
        · rw [p_st2 b0, p_cp1 b2, q4 b (by omega), q2 b (by omega)]
      refine pOk_m hc (fun r M' ⟨h1, h2, h3, h4, h5, h6⟩ => ?_)
      have m6 : M' 186 = M 186 := h6 186 (by omega) (by omega) (by omega)
      have m7 : M' 187 = M 187 := h6 187 (by omega) (by omega) (by omega)
      have m8 : M' 188 = M 188 := h6 188 (by omega) (by omega) (by omega)
      have go := m130_9a 998 M' 3456 0 (by omega) (by omega)
      rw [pCp_0, p_st5, m7, m8, m6] at go
      rw [e130, if_pos rfl, m6, if_neg hk, go]
      refine pOk_s ⟨h1.symm, ?_⟩
      obtain ⟨w', hw'⟩ : ∃ w', w' = pCp (M 187) (M 188) 0 3456 := ⟨_, rfl⟩
      have ca : ∀ k, 0 ≤ k → w' k = M 188 k := by rw [hw']; exact cp_all i1 (Or.inl ⟨rfl, rfl⟩)
      obtain ⟨N, hN⟩ : ∃ N, N = p_st (p_st M' 187 w') 186 (p_up (p_up (M 186) 4 0) 5 1) := ⟨_, rfl⟩
      rw [← hw', ← hN]
      have n6 : N 186 = p_up (p_up (M 186) 4 0) 5 1 := by rw [hN, p_st1]
      have n7 : N 187 = w' := by rw [hN, p_st2 (by decide), p_st1]
      have nf : ∀ b, b ≠ 186 → b ≠ 187 → N b = M' b := fun b b1 b2 => by rw [hN, p_st2 b1, p_st2 b2]
      have n0 : N 0 = p_up (M 0) 3 0 := (nf 0 (by omega) (by omega)).trans h5
      have far : ∀ b, 52 < b → b ≠ 186 → b ≠ 187 → N b = M b := fun b b0 b1 b2 => (nf b b1 b2).trans (h6 b (by omega) (by omega) (by omega))
      have T2 : pTw2 (M 188) w' := fun k hk => ca k (by omega)
      refine ⟨⟨?_, ?_, ?_, ?_, ?_, ?_⟩, ⟨?_, ?_, ?_, ?_⟩, ⟨?_, ?_, ?_⟩, ⟨?_, ?_, ?_⟩, ⟨?_, ?_⟩, ?_, ?_⟩
      · rw [n7]
        exact WR_cg g2.1.2.1.2 (WR_fr h2 (fun b _ _ => nf b (by omega) (by omega))) (fun k k0 _ => ca k k0)
      · rw [n7]; exact WF_cg (fun k k0 _ => ca k k0) g2
      · rw [n7, ca 0 (by omega)]; exact g3
      · rw [n7]; exact TxW_T2 T2 g4
      · rw [n7]; exact TxR_T2 T2 g4 (TxR_fr h3 (fun b _ _ => nf b (by omega) (by omega)))
      · intro j j0 j1
        rw [n7, nf 52 (by omega) (by omega), h4 j j0 j1, ca _ (by omega)]
        exact g6 j j0 j1
      · rw [n0, n6, p_up1, p_off (by omega), p_up1]
      · rw [n6, p_off (by omega), p_up1]; omega
      · rw [n0, p_off (by omega)]; exact b3
      · rw [n6, p_off (by omega), p_up1]
        intro j j0 j1
        omega
      · rw [n0, n6, p_off (by omega), p_up1, c1, k1]
      · rw [n6, p_up1]; exact Or.inr rfl
      · intro _
        rw [far 188 (by omega) (by omega) (by omega)]
        exact ⟨WR_fr g1 (fun b _ _ => far b (by omega) (by omega) (by omega)), g2, g3, g4, TxR_fr g5 (fun b _ _ => far b (by omega) (by omega) (by omega)), fun j j0 j1 => by rw [far 90 (by omega) (by omega) (by omega)]; exact g6 j j0 j1⟩
      · rw [n0, n6, p_off (by omega), p_off (by omega), p_off (by omega)]; exact d1
      · rw [n6, p_off (by omega), p_off (by omega)]; exact d2
      · rw [n6, p_off (by omega), p_off (by omega), far 91 (by omega) (by omega) (by omega), far 194 (by omega) (by omega) (by omega)]; exact d3
      · rw [n6, p_off (by omega), p_off (by omega), far 92 (by omega) (by omega) (by omega)]; exact e1
      · rw [n6, p_off (by omega), p_off (by omega), far 92 (by omega) (by omega) (by omega)]; exact e2
      · intro k hk
        rw [n7, ca k (by omega), far 188 (by omega) (by omega) (by omega)]
        exact ⟨(i1 k hk).2, (i1 k hk).2⟩
      · intro b hb
        rw [far b (by omega) (by omega) (by omega)]
        exact i2 b hb
  · have hc : pOk (am_run 1000 199 [.inr 0, .inl p] M) (fun r M' => r = 1 ∧ WR M' 53 (M 187) ∧ TxR M' 66 (M 187) ∧ (∀ j, 0 ≤ j → j < 400 → M' 90 j = M 52 j) ∧ M' 0 = p_up (M 0) 10 1 ∧ ∀ b, b ≠ 0 → (b < 53 ∨ 90 < b) → M' b = M b) := by
      rw [e199, if_neg hp]
      refine pOk_b (c133 998 ho53 ho1 (by decide) a2.1.2.1.2 a1) (fun _ M1 ⟨_, q1, q2⟩ => ?_)
      refine pOk_b (c159 997 (Or.inr ⟨rfl, rfl⟩) a4 (TxR_fr a5 (fun b _ _ => q2 b (by omega)))) (fun _ M2 ⟨q3, q4⟩ => ?_)
      have e0 : M2 0 = M 0 := by rw [q4 0 (by omega), q2 0 (by omega)]
      have e0' : (am_cpy M2 52 0 90 0 400) 0 = M 0 := by rw [p_cp1 (by decide), e0]
      rw [p_c (by decide), p_upd, p_st1, p_up1, p_c (by decide), e0']
      refine pOk_s ⟨rfl, WR_fr q1 (fun b b1 b2 => ?_), TxR_fr q3 (fun b b1 b2 => ?_), fun j j0 j1 => ?_, p_st1 _ _ _, fun b b0 b1 => ?_⟩
      · rw [p_st2 (by omega), p_cp1 (by omega), q4 b (by omega)]
      · rw [p_st2 (by omega), p_cp1 (by omega)]
      · rw [p_st2 (by omega), p_cp2 j0 j1, q4 52 (by omega), q2 52 (by omega)]
      · rw [p_st2 b0, p_cp1 (by omega), q4 b (by omega), q2 b (by omega)]
    refine pOk_m hc (fun r M' ⟨h1, h2, h3, h4, h5, h6⟩ => ?_)
    have m6 : M' 186 = M 186 := h6 186 (by omega) (by omega)
    have m7 : M' 187 = M 187 := h6 187 (by omega) (by omega)
    have m8 : M' 188 = M 188 := h6 188 (by omega) (by omega)
    have go := m130_9b 998 M' p hp 3456 0 (by omega) (by omega)
    rw [pCp_0, p_st5, m7, m8, m6] at go
    rw [e130, if_neg hp, go]
    refine pOk_s ⟨h1.symm, ?_⟩
    obtain ⟨w', hw'⟩ : ∃ w', w' = pCp (M 188) (M 187) 0 3456 := ⟨_, rfl⟩
    have ca : ∀ k, 0 ≤ k → w' k = M 187 k := by rw [hw']; exact cp_all i1 (Or.inr ⟨rfl, rfl⟩)
    obtain ⟨N, hN⟩ : ∃ N, N = p_st (p_st M' 188 w') 186 (p_up (M 186) 5 1) := ⟨_, rfl⟩
    rw [← hw', ← hN]
    have n6 : N 186 = p_up (M 186) 5 1 := by rw [hN, p_st1]
    have n8 : N 188 = w' := by rw [hN, p_st2 (by decide), p_st1]
    have nf : ∀ b, b ≠ 186 → b ≠ 188 → N b = M' b := fun b b1 b2 => by rw [hN, p_st2 b1, p_st2 b2]
    have n0 : N 0 = p_up (M 0) 10 1 := (nf 0 (by omega) (by omega)).trans h5
    have far : ∀ b, b ≠ 0 → (b < 53 ∨ 90 < b) → b ≠ 186 → b ≠ 188 → N b = M b := fun b k0 b0 b1 b2 => (nf b b1 b2).trans (h6 b k0 b0)
    have n7 : N 187 = M 187 := far 187 (by omega) (by omega) (by omega) (by omega)
    have T2 : pTw2 (M 187) w' := fun k hk => ca k (by omega)
    refine ⟨⟨?_, ?_, ?_, ?_, ?_, ?_⟩, ⟨?_, ?_, ?_, ?_⟩, ⟨?_, ?_, ?_⟩, ⟨?_, ?_, ?_⟩, ⟨?_, ?_⟩, ?_, ?_⟩
    · rw [n7]; exact WR_fr a1 (fun b _ _ => far b (by omega) (by omega) (by omega) (by omega))
    · rw [n7]; exact a2
    · rw [n7]; exact a3
    · rw [n7]; exact a4
    · rw [n7]; exact TxR_fr a5 (fun b _ _ => far b (by omega) (by omega) (by omega) (by omega))
    · rw [n7]; exact pBook_w a6 (far 52 (by omega) (by omega) (by omega) (by omega)) (fun _ _ _ => rfl)
    · rw [n0, n6, p_off (by omega), p_off (by omega)]; exact b1
    · rw [n6, p_off (by omega)]; exact b2
    · rw [n0, p_off (by omega)]; exact b3
    · rw [n0, n6, n7, far 189 (by omega) (by omega) (by omega) (by omega), p_off (by omega), p_off (by omega)]
      exact pRing_fr b4 (fun b _ _ => far b (by omega) (by omega) (by omega) (by omega))
    · rw [n0, n6, p_up1, p_up1]
    · rw [n6, p_up1]; exact Or.inr rfl
    · intro _
      rw [n8]
      exact ⟨WR_cg a2.1.2.1.2 (WR_fr h2 (fun b _ _ => nf b (by omega) (by omega))) (fun k k0 _ => ca k k0), WF_cg (fun k k0 _ => ca k k0) a2, by rw [ca 0 (by omega)]; exact a3, TxW_T2 T2 a4, TxR_T2 T2 a4 (TxR_fr h3 (fun b _ _ => nf b (by omega) (by omega))), fun j j0 j1 => by rw [nf 90 (by omega) (by omega), h4 j j0 j1, ca _ (by omega)]; exact a6 j j0 j1⟩
    · rw [n0, n6, p_off (by omega), p_off (by omega)]; exact d1
    · rw [n6, p_off (by omega)]; exact d2
    · rw [n6, p_off (by omega), far 91 (by omega) (by omega) (by omega) (by omega), far 194 (by omega) (by omega) (by omega) (by omega)]; exact d3
    · rw [n6, p_off (by omega), far 92 (by omega) (by omega) (by omega) (by omega)]; exact e1
    · rw [n6, p_off (by omega), far 92 (by omega) (by omega) (by omega) (by omega)]; exact e2
    · intro k hk
      rw [n7, n8, ca k (by omega)]
      exact ⟨(i1 k hk).1, (i1 k hk).1⟩
    · intro b hb
      rw [far b (by omega) (by omega) (by omega) (by omega)]
      exact i2 b hb
