-- needs: 02 03 04 05 06 07 08 40 41 42 43
/-! PURE: what a law says, in the model -/
def pVal (f : Int → Int) (l : List (Int × Int)) : Int := match pMrun f l [] with
  | some (x :: _) => x
  | _ => 0
def pRuns (l : List (Int × Int)) : Prop := ∀ f, ∃ x, pMrun f l [] = some [x]
theorem pRuns_val {l : List (Int × Int)} (h : pRuns l) (f : Int → Int) : pMrun f l [] = some [pVal f l] := by
  obtain ⟨x, hx⟩ := h f
  simp only [pVal, hx]
def pFrom (w : Int → Int) (k i : Int) : Int := w (804 + 16 * k + i)
def pMid (w : Int → Int) (k i : Int) : Int := w (852 + 16 * k + i)
def pTo (w : Int → Int) (k i : Int) : Int := w (900 + 16 * k + i)
def pSay (w : Int → Int) (k i : Int) : Int := w (948 + 16 * k + i)
def pB (w : Int → Int) (k i : Int) : List (Int × Int) := pSteps w k (pTo w k i - pMid w k i).toNat (pMid w k i)
def pE (w : Int → Int) (k i : Int) : List (Int × Int) := pSteps w k (pMid w k i - pFrom w k i).toNat (pFrom w k i)
def pHolds (w f : Int → Int) (k i : Int) : Bool := decide (pTo w k i = pMid w k i ∨ pVal f (pB w k i) = 1)
/-- which facts a law's texts may ask -/
def pA (k : Int) : List Int := if k = 0 then [1, 2, 3, 4, 5, 6, 7, 8, 9, 10] else if k = 1 then [1, 3, 4, 8, 9, 11, 12, 13, 14] else [1, 2, 4, 6, 8, 9, 12]
def pDep (A : List Int) (l : List (Int × Int)) : Prop := ∀ f g : Int → Int, (∀ s ∈ A, f s = g s) → pMrun f l [] = pMrun g l []
/-- a law that was read well -/
def pLaw (w : Int → Int) (k : Int) : Prop := (0 ≤ w (288 + k) ∧ w (288 + k) ≤ 16) ∧ ∀ i, 0 ≤ i → i < w (288 + k) → (0 ≤ pFrom w k i ∧ pFrom w k i ≤ pMid w k i ∧ pMid w k i ≤ pTo w k i ∧ pTo w k i ≤ 410) ∧ (pTo w k i ≠ pMid w k i → pRuns (pB w k i) ∧ pDep (pA k) (pB w k i)) ∧ (k = 1 → pRuns (pE w k i) ∧ pDep (pA k) (pE w k i))
theorem m56 (d : Nat) (k i : Int) (M : am_M) (hk : 0 ≤ k ∧ k < 3) (hL : pLaw (M 187) k) (hi : 0 ≤ i ∧ i < M 187 (288 + k)) : ∃ pile, am_run (d + 3) 56 [.inr 186, .inl k, .inl i] M = some (if pHolds (M 187) (M 196) k i = true then 1 else 0, p_st M 195 pile) := by
  obtain ⟨⟨a1, a2⟩, h⟩ := hL
  obtain ⟨b1, b2, b3⟩ := h i hi.1 hi.2
  unfold pFrom pMid pTo at b1
  rw [e56]
  simp (disch := omega) only [p_b, p_c, p_w, p_upd, p_st1, p_st2, p_st3, p_up1, p_up2, p_up3, p_i0, p_i1, p_bi, if_pos, if_neg, if_true, if_false, Bool.false_eq_true]
  by_cases hc : M 187 (900 + 16 * k + i) = M 187 (852 + 16 * k + i)
  · refine ⟨M 195, ?_⟩
    simp (disch := omega) only [p_b, p_c, p_w, p_upd, p_st1, p_st2, p_st3, p_up1, p_up2, p_up3, p_i0, p_i1, p_bi, if_pos, if_neg, if_true, if_false, Bool.false_eq_true, pHolds, pTo, pMid, hc, true_or, decide_true, p_st5]
  · have hr := pRuns_val (b2 hc).1 (M 196)
    obtain ⟨pile, hp⟩ := m55 d k (M 187 (852 + 16 * k + i)) (M 187 (900 + 16 * k + i)) _ M hk (by omega) hr
    refine ⟨pile, ?_⟩
    have hc' : ¬ pTo (M 187) k i = pMid (M 187) k i := hc
    rw [if_neg hc]
    have hp : am_run (d + 2) 55 [.inr 186, .inl k, .inl (M 187 (852 + 16 * k + i)), .inl (M 187 (900 + 16 * k + i))] M = some (pVal (M 196) (pB (M 187) k i), p_st M 195 pile) := hp
    rw [hp, p_b]
    by_cases h1 : pVal (M 196) (pB (M 187) k i) = 1
    · simp only [pHolds, h1, or_true, decide_true, if_true]
    · simp only [pHolds, h1, hc', or_false, decide_false, if_false, Bool.false_eq_true]
def pSays (w f : Int → Int) (k o : Int) : Nat → Int → Int
  | 0, _ => o
  | n + 1, i => if pHolds w f k i = true then pSay w k i else pSays w f k o n (i + 1)
theorem m57_2 (d : Nat) (k o : Int) (hk : 0 ≤ k ∧ k < 3) : ∀ (n : Nat) (i : Int) (M : am_M), pLaw (M 187) k → 0 ≤ i → i + n = M 187 (288 + k) → ∃ pile, am_L (d + 3) 57 2 [some (.inr 186), some (.inl k), some (.inl o), some (.inl i)] [] M = some (pSays (M 187) (M 196) k o n i, p_st M 195 pile) := by
  intro n
  induction n with
  | zero =>
    intro i M hL h0 hi
    refine ⟨M 195, ?_⟩
    rw [e57_2]
    simp (disch := omega) only [p_b, p_c, p_w, p_upd, p_st1, p_st2, p_st3, p_up1, p_up2, p_up3, p_i0, p_i1, p_bi, if_pos, if_neg, if_true, if_false, Bool.false_eq_true, pSays, p_st5]
  | succ n ih =>
    intro i M hL h0 hi
    have hL2 := hL
    obtain ⟨⟨a1, a2⟩, -⟩ := hL2
    obtain ⟨pile, hp⟩ := m56 d k i M hk hL (by omega)
    rw [e57_2]
    simp (disch := omega) only [p_b, p_c, p_w, p_upd, p_st1, p_st2, p_st3, p_up1, p_up2, p_up3, p_i0, p_i1, p_bi, if_pos, if_neg, if_true, if_false, Bool.false_eq_true, hp]
    by_cases hc : pHolds (M 187) (M 196) k i = true
    · refine ⟨pile, ?_⟩
      simp (disch := omega) only [p_b, p_c, p_w, p_upd, p_st1, p_st2, p_st3, p_up1, p_up2, p_up3, p_i0, p_i1, p_bi, if_pos, if_neg, if_true, if_false, Bool.false_eq_true, hc, pSays, p_st2, pSay]
    · obtain ⟨pile2, hp2⟩ := ih (i + 1) (p_st M 195 pile) (by rw [p_st2 (by decide)]; exact hL) (by omega) (by rw [p_st2 (by decide)]; omega)
      refine ⟨pile2, ?_⟩
      rw [p_st3, p_st2 (by decide), p_st2 (by decide)] at hp2
      simp (disch := omega) only [p_b, p_c, p_w, p_upd, p_st1, p_st2, p_st3, p_up1, p_up2, p_up3, p_i0, p_i1, p_bi, if_pos, if_neg, if_true, if_false, Bool.false_eq_true, hc, pSays, hp2]
theorem m57 (d : Nat) (k o : Int) (M : am_M) (hk : 0 ≤ k ∧ k < 3) (hL : pLaw (M 187) k) : ∃ pile, am_run (d + 4) 57 [.inr 186, .inl k, .inl o] M = some (pSays (M 187) (M 196) k o (M 187 (288 + k)).toNat 0, p_st M 195 pile) := by
  have := hL.1
  rw [e57]
  exact m57_2 d k o hk _ 0 M hL (Int.le_refl _) (by omega)
def pAmt (w f : Int → Int) (word high : Int) : Nat → Int → Int
  | 0, _ => 0
  | n + 1, i => if pSay w 1 i = word ∧ pHolds w f 1 i = true then max 0 (min high (pVal f (pE w 1 i))) else pAmt w f word high n (i + 1)
theorem m58_2 (d : Nat) (word high : Int) : ∀ (n : Nat) (i : Int) (M : am_M), pLaw (M 187) 1 → 0 ≤ i → i + n = M 187 289 → ∃ pile, am_L (d + 3) 58 2 [some (.inr 186), some (.inl word), some (.inl high), some (.inl i)] [] M = some (pAmt (M 187) (M 196) word high n i, p_st M 195 pile) := by
  intro n
  induction n with
  | zero =>
    intro i M hL h0 hi
    refine ⟨M 195, ?_⟩
    rw [e58_2]
    simp (disch := omega) only [p_b, p_c, p_w, p_upd, p_st1, p_st2, p_st3, p_up1, p_up2, p_up3, p_i0, p_i1, p_bi, if_pos, if_neg, if_true, if_false, Bool.false_eq_true, pAmt, p_st5]
  | succ n ih =>
    intro i M hL h0 hi
    have hL2 := hL
    obtain ⟨⟨a1, a2⟩, hL3⟩ := hL2
    have a2 : M 187 289 ≤ 16 := a2
    obtain ⟨b1, b2, b3⟩ := hL3 i h0 (show i < M 187 289 by omega)
    have e1 : pSay (M 187) 1 i = M 187 (964 + i) := congrArg (M 187) (by omega)
    have e2 : pFrom (M 187) 1 i = M 187 (820 + i) := congrArg (M 187) (by omega)
    have e3 : pMid (M 187) 1 i = M 187 (868 + i) := congrArg (M 187) (by omega)
    have next : ∀ pile, ¬ (pSay (M 187) 1 i = word ∧ pHolds (M 187) (M 196) 1 i = true) → ∃ pile2, am_L (d + 3) 58 2 [some (.inr 186), some (.inl word), some (.inl high), some (.inl (i + 1))] [] (p_st M 195 pile) = some (pAmt (M 187) (M 196) word high (n + 1) i, p_st M 195 pile2) := by
      intro pile hc
      obtain ⟨pile2, hp2⟩ := ih (i + 1) (p_st M 195 pile) (by rw [p_st2 (by decide)]; exact hL) (by omega) (by rw [p_st2 (by decide)]; omega)
      refine ⟨pile2, ?_⟩
      rw [p_st3, p_st2 (by decide), p_st2 (by decide)] at hp2
      rw [hp2, pAmt, if_neg hc]
    rw [e58_2]
    simp (disch := omega) only [p_b, p_c, p_w, p_upd, p_st1, p_st2, p_st3, p_up1, p_up2, p_up3, p_i0, p_i1, p_bi, if_pos, if_neg, if_true, if_false, Bool.false_eq_true]
    by_cases hw : M 187 (964 + i) = word
    · obtain ⟨pile, hp⟩ := m56 d 1 i M (by omega) hL (by show 0 ≤ i ∧ i < M 187 289; omega)
      rw [if_pos hw, hp]
      simp (disch := omega) only [p_b, p_c, p_w, p_upd, p_st1, p_st2, p_st3, p_up1, p_up2, p_up3, p_i0, p_i1, p_bi, if_pos, if_neg, if_true, if_false, Bool.false_eq_true]
      by_cases hc : pHolds (M 187) (M 196) 1 i = true
      · rw [if_pos hc]
        have hr := pRuns_val (b3 rfl).1 (M 196)
        obtain ⟨pile2, hp2⟩ := m55 (d + 1) 1 (pFrom (M 187) 1 i) (pMid (M 187) 1 i) _ (p_st M 195 pile) (by omega) (by omega) (by rw [p_st2 (by decide), p_st2 (by decide)]; exact hr)
        refine ⟨pile2, ?_⟩
        rw [e2, e3, p_st3] at hp2
        simp (disch := omega) only [p_b, p_c, p_w, p_upd, p_st1, p_st2, p_st3, p_up1, p_up2, p_up3, p_i0, p_i1, p_bi, if_pos, if_neg, if_true, if_false, Bool.false_eq_true, p_st2, hp2, m1, m2]
        rw [pAmt, if_pos ⟨e1.trans hw, hc⟩]
      · rw [if_neg hc]
        exact next pile (fun h => hc h.2)
    · rw [if_neg hw]
      have := next (M 195) (fun h => hw (e1.symm.trans h.1))
      rw [p_st5] at this
      exact this
theorem m58 (d : Nat) (word high : Int) (M : am_M) (hL : pLaw (M 187) 1) : ∃ pile, am_run (d + 4) 58 [.inr 186, .inl word, .inl high] M = some (pAmt (M 187) (M 196) word high (M 187 289).toNat 0, p_st M 195 pile) := by
  have : 0 ≤ M 187 289 := hL.1.1
  rw [e58]
  exact m58_2 d word high _ 0 M hL (Int.le_refl _) (by omega)
theorem pHolds_dep {w f g : Int → Int} {k i : Int} (hL : pLaw w k) (hi : 0 ≤ i ∧ i < w (288 + k)) (h : ∀ s ∈ pA k, f s = g s) : pHolds w f k i = pHolds w g k i := by
  obtain ⟨-, b2, -⟩ := hL.2 i hi.1 hi.2
  unfold pHolds
  by_cases hc : pTo w k i = pMid w k i
  · simp only [hc, true_or]
  · have : pVal f (pB w k i) = pVal g (pB w k i) := by
      unfold pVal
      rw [(b2 hc).2 f g h]
    rw [this]
theorem pSays_dep {w f g : Int → Int} {k o : Int} (hL : pLaw w k) (h : ∀ s ∈ pA k, f s = g s) : ∀ (n : Nat) (i : Int), 0 ≤ i → i + n = w (288 + k) → pSays w f k o n i = pSays w g k o n i := by
  intro n
  induction n with
  | zero => intro i _ _; rfl
  | succ n ih =>
    intro i h0 hi
    rw [pSays, pSays, pHolds_dep hL ⟨h0, by omega⟩ h, ih (i + 1) (by omega) (by omega)]
theorem pAmt_dep {w f g : Int → Int} {word high : Int} (hL : pLaw w 1) (h : ∀ s ∈ pA 1, f s = g s) : ∀ (n : Nat) (i : Int), 0 ≤ i → i + n = w 289 → pAmt w f word high n i = pAmt w g word high n i := by
  intro n
  induction n with
  | zero => intro i _ _; rfl
  | succ n ih =>
    intro i h0 hi
    have hi' : i < w (288 + 1) := by show i < w 289; omega
    obtain ⟨-, -, b3⟩ := hL.2 i h0 hi'
    have : pVal f (pE w 1 i) = pVal g (pE w 1 i) := by
      unfold pVal
      rw [(b3 rfl).2 f g h]
    rw [pAmt, pAmt, pHolds_dep hL ⟨h0, hi'⟩ h, ih (i + 1) (by omega) (by omega), this]
