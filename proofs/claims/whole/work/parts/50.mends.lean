/-! PURE: loans end, in the model -/
def pEn2 (w : Int → Int) (i : Int) : Int → Int := pGoes (p_up w (36 + 10 * pl w i 0 + 8) (-1)) (pl w i 0) (if pOn (p_up w (36 + 10 * pl w i 0 + 8) (-1)) (pl w i 1) (pl w i 0 % 2) = -1 then pl w i 1 else -1)
def pEn3 (w : Int → Int) (i : Int) : Int → Int := if pOn (pEn2 w i) (pl w i 2) (pl w i 0 % 2) = -1 ∧ ph (pEn2 w i) (2 * pl w i 2 + pl w i 0 % 2) 8 = -1 then pGoes (pEn2 w i) (2 * pl w i 2 + pl w i 0 % 2) (pl w i 2) else pEn2 w i
def pEnds (w : Int → Int) (i : Int) : Int → Int := p_up (pCp (pEn3 w i) (fun k => pEn3 w i (k + 5)) (196 + 5 * i) (5 * (w 1 - 1 - i))) 1 (w 1 - 1)
theorem pEn2_off {w : Int → Int} {i k : Int} (hk : k < 36 + 10 * pl w i 0 + 7 ∨ 36 + 10 * pl w i 0 + 8 < k) : pEn2 w i k = w k := by
  unfold pEn2
  rw [pG_off hk, p_off (by omega)]
theorem pEn3_off {w : Int → Int} {i k : Int} (hl : (0 ≤ pl w i 0 ∧ pl w i 0 < 16) ∧ (0 ≤ pl w i 2 ∧ pl w i 2 < 8)) (hk : k < 43 ∨ 194 < k ∨ (k % 10 ≠ 3 ∧ k % 10 ≠ 4)) : pEn3 w i k = w k := by
  unfold pEn3
  by_cases h : pOn (pEn2 w i) (pl w i 2) (pl w i 0 % 2) = -1 ∧ ph (pEn2 w i) (2 * pl w i 2 + pl w i 0 % 2) 8 = -1
  · rw [if_pos h, pG_off (by omega), pEn2_off (by omega)]
  · rw [if_neg h, pEn2_off (by omega)]
theorem m83_64 (d : Nat) (M : am_M) (w : Int → Int) (i N : Int) (o : List (Option am_V)) (hN : w 1 = N) (hN2 : N ≤ 16) (h0 : 0 ≤ i) (hi : i < N) (x1 x2 x3 x4 x5 x6 : Int) : ∀ (k : Nat) (j : Int), j = 5 * (N - 1 - i) - k → 0 ≤ j → am_L (d + 1) 83 64 [some (.inr 186), some (.inl x1), some (.inl x2), some (.inl x3), some (.inl x4), some (.inl x5), some (.inl x6), some (.inl (196 + 5 * i + j))] [] (p_st M 187 (pCp w (fun k => w (k + 5)) (196 + 5 * i) j)) = some (0, p_st M 187 (p_up (pCp w (fun k => w (k + 5)) (196 + 5 * i) (5 * (N - 1 - i))) 1 (N - 1))) := by
  intro k
  induction k with
  | zero =>
    intro j hj hj0
    obtain rfl : j = 5 * (N - 1 - i) := by omega
    have e : pCp w (fun k => w (k + 5)) (196 + 5 * i) (5 * (N - 1 - i)) 1 = N := by rw [pCp_out (by omega)]; exact hN
    rw [e83_64]
    simp (disch := omega) only [p_w, p_c, if_neg, p_st1, e, p_upd, p_st3]
  | succ k ih =>
    intro j hj hj0
    have e : pCp w (fun k => w (k + 5)) (196 + 5 * i) j 1 = N := by rw [pCp_out (by omega)]; exact hN
    rw [e83_64]
    simp (disch := omega) only [p_w, p_c, if_pos, p_st1, e, p_upd, p_st3]
    rw [pCp_up (v := pCp w (fun k => w (k + 5)) (196 + 5 * i) j (196 + 5 * i + j + 5)) hj0 rfl (by rw [pCp_out (by omega)]), show 196 + 5 * i + j + 1 = 196 + 5 * i + (j + 1) from by omega]
    exact ih (j + 1) (by omega) (by omega)
theorem m83 (d : Nat) (i : Int) (M : am_M) (hw : WF (M 187)) (hi : 0 ≤ i ∧ i < M 187 1) : am_run (d + 3) 83 [.inr 186, .inl i] M = some (0, p_st M 187 (pEnds (M 187) i)) := by
  obtain ⟨⟨n1, n2, n3⟩, hp, hh, hl, hz⟩ := hw
  obtain ⟨l0, l1, l2⟩ := hl i hi.1 hi.2
  have fin : ∀ x6, am_L (d + 2) 83 64 [some (.inr 186), some (.inl i), some (.inl (pl (M 187) i 0)), some (.inl (pl (M 187) i 1)), some (.inl (pl (M 187) i 2)), some (.inl (pl (M 187) i 0 % 2)), some (.inl x6), some (.inl (196 + 5 * i))] [] (p_st M 187 (pEn3 (M 187) i)) = some (0, p_st M 187 (pEnds (M 187) i)) := by
    intro x6
    have := m83_64 (d + 1) M (pEn3 (M 187) i) i (M 187 1) [] (pEn3_off (by omega) (by omega)) n1.2 hi.1 hi.2 i (pl (M 187) i 0) (pl (M 187) i 1) (pl (M 187) i 2) (pl (M 187) i 0 % 2) x6 (5 * (M 187 1 - 1 - i)).toNat 0 (by omega) (by omega)
    rw [pCp_0, show 196 + 5 * i + 0 = 196 + 5 * i from by omega] at this
    exact this
  have g276 : (p_up (M 187) (36 + 10 * pl (M 187) i 0 + 8) (-1)) 276 = M 187 276 := p_off (by omega)
  have g2 : pEn2 (M 187) i 276 = M 187 276 := pEn2_off (by omega)
  have mid : am_L (d + 2) 83 35 [some (.inr 186), some (.inl i), some (.inl (pl (M 187) i 0)), some (.inl (pl (M 187) i 1)), some (.inl (pl (M 187) i 2)), some (.inl (pl (M 187) i 0 % 2)), none, none] [.inl (if pOn (p_up (M 187) (36 + 10 * pl (M 187) i 0 + 8) (-1)) (pl (M 187) i 1) (pl (M 187) i 0 % 2) = -1 then pl (M 187) i 1 else -1), .inl (pl (M 187) i 0), .inr 186] (p_st M 187 (p_up (M 187) (36 + 10 * pl (M 187) i 0 + 8) (-1))) = some (0, p_st M 187 (pEnds (M 187) i)) := by
    rw [e83_35, m66 _ _ _ _ (by omega), p_b, p_st1, p_st3, ← pEn2, m12 _ _ _ _ (by rw [p_st1, g2]; exact n2) (by omega), p_b, p_st1]
    simp (disch := omega) only [p_w]
    by_cases h1 : pOn (pEn2 (M 187) i) (pl (M 187) i 2) (pl (M 187) i 0 % 2) = -1
    · rw [if_pos h1, m5 _ _ _ _ (by omega) (by omega), p_b, p_st1]
      by_cases h2 : ph (pEn2 (M 187) i) (2 * pl (M 187) i 2 + pl (M 187) i 0 % 2) 8 = -1
      · rw [if_pos h2, m66 _ _ _ _ (by omega), p_b, p_st1, p_st3]
        have : pEn3 (M 187) i = pGoes (pEn2 (M 187) i) (2 * pl (M 187) i 2 + pl (M 187) i 0 % 2) (pl (M 187) i 2) := if_pos ⟨h1, h2⟩
        rw [← this]
        exact fin _
      · rw [if_neg h2]
        have : pEn3 (M 187) i = pEn2 (M 187) i := if_neg (fun q => h2 q.2)
        rw [← this]
        exact fin _
    · rw [if_neg h1]
      have : pEn3 (M 187) i = pEn2 (M 187) i := if_neg (fun q => h1 q.1)
      rw [← this]
      exact fin _
  rw [e83, m7 _ _ _ _ (by omega) (by omega), p_b, m7 _ _ _ _ (by omega) (by omega), p_b, m7 _ _ _ _ (by omega) (by omega), p_b, p_c (by decide), m6 _ _ _ _ _ (by omega) (by omega), p_b, p_rem2 (by omega) (by omega), m12 _ _ _ _ (by rw [p_st1, g276]; exact n2) (by omega), p_b, p_st1]
  by_cases h1 : pOn (p_up (M 187) (36 + 10 * pl (M 187) i 0 + 8) (-1)) (pl (M 187) i 1) (pl (M 187) i 0 % 2) = -1
  · rw [if_pos h1]
    rw [if_pos h1] at mid
    exact mid
  · rw [if_neg h1]
    rw [if_neg h1] at mid
    exact mid
theorem pG_up (w : Int → Int) (h p v : Int) : pGoes (p_up w (36 + 10 * h + 8) v) h p = pGoes w h p := by
  unfold pGoes
  rw [p_up3]
theorem pEn3_WFh {w : Int → Int} {i : Int} (hw : WF w) (hi : 0 ≤ i ∧ i < w 1) : WFh (pEn3 w i) := by
  obtain ⟨⟨n1, n2, n3⟩, hp, hh, hl, hz⟩ := hw
  obtain ⟨l0, l1, l2⟩ := hl i hi.1 hi.2
  have g2 : pEn2 w i 276 = w 276 := pEn2_off (by omega)
  have w2 : WFh (pEn2 w i) := by
    unfold pEn2
    rw [pG_up]
    refine WFh_goes hh n2.2 l0 ?_ ?_
    · by_cases h1 : pOn (p_up w (36 + 10 * pl w i 0 + 8) (-1)) (pl w i 1) (pl w i 0 % 2) = -1
      · rw [if_pos h1]; omega
      · rw [if_neg h1]; omega
    · by_cases h1 : pOn (p_up w (36 + 10 * pl w i 0 + 8) (-1)) (pl w i 1) (pl w i 0 % 2) = -1
      · rw [if_pos h1]
        refine Or.inr (fun g k0 k1 k2 k3 => ?_)
        have := (pOn_none (by omega) (by rw [p_off (by omega)]; omega)).mp h1 g k0 (by rw [p_off (by omega)]; exact k1) k2
        rwa [ph_off (by omega)] at this
      · rw [if_neg h1]; exact Or.inl rfl
  unfold pEn3
  by_cases h : pOn (pEn2 w i) (pl w i 2) (pl w i 0 % 2) = -1 ∧ ph (pEn2 w i) (2 * pl w i 2 + pl w i 0 % 2) 8 = -1
  · rw [if_pos h]
    refine WFh_goes w2 (by omega) (by omega) (by omega) (Or.inr (fun g k0 k1 k2 k3 => ?_))
    exact (pOn_none (by omega) (by omega)).mp h.1 g k0 k1 (by omega)
  · rw [if_neg h]; exact w2
theorem pEnds_off {w : Int → Int} {i k : Int} (hl : (0 ≤ pl w i 0 ∧ pl w i 0 < 16) ∧ (0 ≤ pl w i 2 ∧ pl w i 2 < 8)) (hi : 0 ≤ i ∧ i < w 1 ∧ w 1 ≤ 16) (h1 : k ≠ 1) (hk : k < 43 ∨ (194 < k ∧ k < 196) ∨ 276 ≤ k ∨ (k < 196 ∧ k % 10 ≠ 3 ∧ k % 10 ≠ 4)) : pEnds w i k = w k := by
  unfold pEnds
  rw [p_off (by omega), pCp_out (by omega), pEn3_off hl (by omega)]
theorem pEnds_ph {w : Int → Int} {i h f : Int} (hi : 0 ≤ i) (h0 : 0 ≤ h ∧ h < 16) (hf : 0 ≤ f ∧ f < 10) : ph (pEnds w i) h f = ph (pEn3 w i) h f := by
  unfold ph pEnds
  rw [p_off (by omega), pCp_out (by omega)]
theorem pEnds_pl {w : Int → Int} {i j f : Int} (hl : (0 ≤ pl w i 0 ∧ pl w i 0 < 16) ∧ (0 ≤ pl w i 2 ∧ pl w i 2 < 8)) (hi : 0 ≤ i ∧ i < w 1) (hj : 0 ≤ j) (hf : 0 ≤ f ∧ f < 5) : pl (pEnds w i) j f = if i ≤ j ∧ j < w 1 - 1 then pl w (j + 1) f else pl w j f := by
  unfold pEnds pl
  rw [p_off (by omega)]
  by_cases h : i ≤ j ∧ j < w 1 - 1
  · rw [pCp_in (by omega), if_pos h, pEn3_off hl (by omega)]
    congr 1
    omega
  · rw [pCp_out (by omega), if_neg h, pEn3_off hl (by omega)]
theorem pEnds_1 (w : Int → Int) (i : Int) : pEnds w i 1 = w 1 - 1 := p_up1 _ _ _
theorem pEnds_WF {w : Int → Int} {i : Int} (hw : WF w) (hi : 0 ≤ i ∧ i < w 1) : WF (pEnds w i) := by
  have h3 := pEn3_WFh hw hi
  obtain ⟨⟨n1, n2, n3⟩, hp, hh, hl, hz⟩ := hw
  obtain ⟨l0, l1, l2⟩ := hl i hi.1 hi.2
  have hl' : (0 ≤ pl w i 0 ∧ pl w i 0 < 16) ∧ (0 ≤ pl w i 2 ∧ pl w i 2 < 8) := by omega
  have off : ∀ k, k ≠ 1 → (k < 43 ∨ (194 < k ∧ k < 196) ∨ 276 ≤ k ∨ (k < 196 ∧ k % 10 ≠ 3 ∧ k % 10 ≠ 4)) → pEnds w i k = w k := fun k => pEnds_off hl' ⟨hi.1, hi.2, n1.2⟩
  have e1 := pEnds_1 w i
  have e276 := off 276 (by omega) (by omega)
  have e2 := off 2 (by omega) (by omega)
  have e3 : pEn3 w i 276 = w 276 := pEn3_off hl' (by omega)
  refine ⟨⟨by omega, by omega, by omega⟩, ?_, ⟨?_, ?_, ?_⟩, ?_, ⟨?_, ?_⟩⟩
  · intro q k0 k1
    unfold pp
    rw [off _ (by omega) (by omega), off _ (by omega) (by omega)]
    exact hp q k0 k1
  · intro g k0 k1
    rw [e276] at k1 ⊢
    rw [pEnds_ph hi.1 (by omega) (by omega), ← e3]
    exact h3.1 g k0 (by omega)
  · intro g k0 k1
    rw [pEnds_ph hi.1 (by omega) (by omega)]
    exact h3.2.1 g k0 (by omega)
  · intro a b k0 k1 k2 k3
    rw [e276] at k1 k3
    rw [pEnds_ph hi.1 (by omega) (by omega), pEnds_ph hi.1 (by omega) (by omega)]
    exact h3.2.2 a b k0 (by omega) k2 (by omega)
  · intro j k0 k1
    rw [e1] at k1
    rw [pEnds_pl hl' hi k0 (by omega), pEnds_pl hl' hi k0 (by omega), pEnds_pl hl' hi k0 (by omega), e276]
    by_cases h : i ≤ j ∧ j < w 1 - 1
    · rw [if_pos h, if_pos h, if_pos h]
      exact hl (j + 1) (by omega) (by omega)
    · rw [if_neg h, if_neg h, if_neg h]
      exact hl j (by omega) (by omega)
  · intro p k0 k1
    rw [e276] at k0
    have := hz.1 p k0 k1
    refine ⟨fun f q0 q1 => ?_, ?_⟩
    · have := this.1 f q0 q1
      unfold pp at this ⊢
      rw [off _ (by omega) (by omega)]
      exact this
    · rw [off _ (by omega) (by omega)]
      exact this.2
  · intro g k0 k1 f q0 q1
    rw [e276] at k0
    rw [pEnds_ph hi.1 (by omega) (by omega), ← hz.2 g k0 k1 f q0 q1]
    have e2 : ph (pEn2 w i) g f = ph w g f := by
      unfold ph
      rw [pEn2_off (by omega)]
    unfold pEn3
    by_cases h : pOn (pEn2 w i) (pl w i 2) (pl w i 0 % 2) = -1 ∧ ph (pEn2 w i) (2 * pl w i 2 + pl w i 0 % 2) 8 = -1
    · rw [if_pos h, pG_ph _ _ _ _ _ (by omega), if_neg (by omega), if_neg (by omega), e2]
    · rw [if_neg h, e2]
/-- all loans that end now, from the latest on -/
def pEA : Nat → (Int → Int) → Int → Int
  | 0, w => w
  | k + 1, w => pEA k (if w 0 < pl w k 3 then w else pEnds w k)
theorem pEA_all : ∀ (k : Nat) (w : Int → Int), WF w → (k : Int) ≤ w 1 → WF (pEA k w) ∧ ∀ j, j ≠ 1 → (j < 43 ∨ 276 ≤ j ∨ (j < 196 ∧ j % 10 ≠ 3 ∧ j % 10 ≠ 4)) → pEA k w j = w j := by
  intro k
  induction k with
  | zero => intro w hw hk; exact ⟨hw, fun _ _ _ => rfl⟩
  | succ k ih =>
    intro w hw hk
    rw [pEA]
    by_cases h : w 0 < pl w k 3
    · rw [if_pos h]
      exact ih w hw (by omega)
    · rw [if_neg h]
      have hi : 0 ≤ (k : Int) ∧ (k : Int) < w 1 := by omega
      obtain ⟨l0, l1, l2⟩ := hw.2.2.2.1 k hi.1 hi.2
      have n2 := hw.1.2.1
      have := ih (pEnds w k) (pEnds_WF hw hi) (by rw [pEnds_1]; omega)
      refine ⟨this.1, fun j h1 h2 => ?_⟩
      rw [this.2 j h1 h2, pEnds_off (by omega) ⟨hi.1, hi.2, hw.1.1.2⟩ h1 (by omega)]
theorem m86_7 (d : Nat) (M : am_M) : ∀ (k : Nat) (w : Int → Int), WF w → (k : Int) ≤ w 1 → am_L (d + 3) 86 7 [some (.inr 186), some (.inl ((k : Int) - 1))] [] (p_st M 187 w) = some (0, p_st M 187 (pEA k w)) := by
  intro k
  induction k with
  | zero =>
    intro w hw hk
    rw [e86_7, if_pos (by omega), pEA]
  | succ k ih =>
    intro w hw hk
    have n1 := hw.1.1
    have hk2 : 0 ≤ (k : Int) ∧ (k : Int) < w 1 := by omega
    rw [e86_7, if_neg (by omega), show ((k + 1 : Nat) : Int) - 1 = k from by omega, m7 _ _ _ _ (by omega) (by omega), p_b, p_c (by omega), p_st1, pEA, show am_wrap ((k : Int) + -1) = (k : Int) - 1 from by rw [p_w (by omega) (by omega)]; omega]
    by_cases h : w 0 < pl w k 3
    · rw [if_pos h, if_pos h]
      exact ih w hw (by omega)
    · rw [if_neg h, if_neg h, m83 _ _ _ (by rw [p_st1]; exact hw) (by rw [p_st1]; exact hk2), p_b, p_st1, p_st3]
      exact ih _ (pEnds_WF hw hk2) (by rw [pEnds_1]; omega)
theorem m86 (d : Nat) (M : am_M) (hw : WF (M 187)) : am_run (d + 4) 86 [.inr 186] M = some (0, p_st M 187 (pEA (M 187 1).toNat (M 187))) := by
  have n1 := hw.1.1
  have := m86_7 d M (M 187 1).toNat (M 187) hw (by omega)
  rw [e86, p_c (by omega), p_w (by omega) (by omega)]
  rw [p_st5, show (((M 187 1).toNat : Nat) : Int) = M 187 1 from by omega] at this
  exact this
