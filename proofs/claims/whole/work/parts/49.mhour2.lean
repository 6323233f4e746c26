/-! PURE: the model's hour: what holds on -/
theorem pl_hi {w : Int → Int} {h p i f : Int} (h0 : 0 ≤ i) (h1 : 0 ≤ f) (hh : 0 ≤ h ∧ h < 16) : pl (pGoes w h p) i f = pl w i f := pl_goes h0 h1 hh
theorem WFh_goes {w : Int → Int} {h p : Int} (hw : WFh w) (hn : w 276 ≤ 8) (hh : 0 ≤ h ∧ h < 2 * w 276) (hp : -1 ≤ p ∧ p < w 276) (hno : p = -1 ∨ ∀ g, 0 ≤ g → g < 2 * w 276 → g % 2 = h % 2 → g ≠ h → ph w g 8 ≠ p) : WFh (pGoes w h p) := by
  have e : pGoes w h p 276 = w 276 := pG_off (by omega)
  refine ⟨?_, ?_, ?_⟩
  · intro g h0 h1
    rw [e] at h1 ⊢
    have := hw.1 g h0 h1
    rw [pG_ph _ _ _ _ _ (by omega)]
    by_cases q : g = h
    · rw [if_pos ⟨q, rfl⟩]; omega
    · rw [if_neg (by omega), if_neg (by omega)]; exact this
  · intro g h0 h1
    have := hw.2.1 g h0 h1
    rw [pG_ph _ _ _ _ _ (by omega), if_neg (by omega)]
    by_cases q : g = h
    · rw [if_pos ⟨q, rfl⟩]; omega
    · rw [if_neg (by omega)]; exact this
  · intro a b h0 h1 h2 h3 h4
    rw [e] at h1 h3
    have hu := hw.2.2 a b h0 h1 h2 h3 h4
    rw [pG_ph _ _ _ _ _ (by omega), pG_ph _ _ _ _ _ (by omega), if_neg (show ¬ (a = h ∧ (8 : Int) = 7) by omega), if_neg (show ¬ (b = h ∧ (8 : Int) = 7) by omega)]
    by_cases qa : a = h
    · rw [if_pos ⟨qa, rfl⟩]
      by_cases qb : b = h
      · intro _ _; omega
      · rw [if_neg (by omega)]
        intro k1 k2
        rcases hno with q | q
        · exact absurd q k2
        · exact absurd k1.symm (q b h2 h3 (by omega) qb)
    · rw [if_neg (by omega)]
      by_cases qb : b = h
      · rw [if_pos ⟨qb, rfl⟩]
        intro k1 k2
        rcases hno with q | q
        · exact absurd (k1.trans q) k2
        · exact absurd k1 (q a h0 h1 (by omega) qa)
      · rw [if_neg (by omega)]
        exact hu
/-- cells that leave all well -/
theorem WF_same {w w' : Int → Int} (hw : WF w) (hn : w' 1 = w 1 ∧ w' 2 = w 2 ∧ w' 276 = w 276) (hp : ∀ p, 0 ≤ p → p < 8 → (0 ≤ pp w' p 0 ∧ pp w' p 0 ≤ 9999) ∧ (-1 ≤ pp w' p 1 ∧ pp w' p 1 ≤ 3)) (hh : WFh w') (hl : ∀ i f, 0 ≤ i → i < 16 → 0 ≤ f → f < 5 → pl w' i f = pl w i f) (hz : ∀ p, w 276 ≤ p → p < 8 → (∀ f, 0 ≤ f → f < 4 → pp w' p f = pp w p f) ∧ w' (277 + p) = w (277 + p)) (hz2 : ∀ h, 2 * w 276 ≤ h → h < 16 → ∀ f, 0 ≤ f → f < 10 → ph w' h f = ph w h f) : WF w' := by
  obtain ⟨⟨n1, n2, n3⟩, -, -, l0, z0⟩ := hw
  obtain ⟨e1, e2, e3⟩ := hn
  refine ⟨⟨by omega, by omega, by omega⟩, hp, hh, ?_, ⟨?_, ?_⟩⟩
  · intro i h0 h1
    rw [e1] at h1
    rw [hl i 0 h0 (by omega) (by omega) (by omega), hl i 1 h0 (by omega) (by omega) (by omega), hl i 2 h0 (by omega) (by omega) (by omega), e3]
    exact l0 i h0 h1
  · intro p h0 h1
    rw [e3] at h0
    refine ⟨fun f k1 k2 => ?_, ?_⟩
    · rw [(hz p h0 h1).1 f k1 k2]
      exact (z0.1 p h0 h1).1 f k1 k2
    · rw [(hz p h0 h1).2]
      exact (z0.1 p h0 h1).2
  · intro h h0 h1 f k1 k2
    rw [e3] at h0
    rw [hz2 h h0 h1 f k1 k2]
    exact z0.2 h h0 h1 f k1 k2
theorem WFh_same {w w' : Int → Int} (hw : WFh w) (hn : w' 276 = w 276) (h8 : ∀ h, 0 ≤ h → h < 2 * w 276 → ph w' h 8 = ph w h 8) (h7 : ∀ h, 0 ≤ h → h < 16 → (-2147483648 ≤ ph w' h 7 ∧ ph w' h 7 ≤ 2147483647)) : WFh w' := by
  refine ⟨?_, h7, ?_⟩
  · intro h h0 h1
    rw [hn] at h1 ⊢
    rw [h8 h h0 h1]
    exact hw.1 h h0 h1
  · intro a b h0 h1 h2 h3 h4
    rw [hn] at h1 h3
    rw [h8 a h0 h1, h8 b h2 h3]
    exact hw.2.2 a b h0 h1 h2 h3 h4
theorem pWorks_off {w : Int → Int} {p h t k : Int} (hk : -1 ≤ pp w p 1 ∧ pp w p 1 ≤ 3) (ht : pp w p 1 ≠ -1) (h0 : k ≠ 3) (h1 : k ≠ 4 + 4 * p + 0) (h2 : k < 36 + 10 * h ∨ 36 + 10 * h + 5 < k) : pWorks w p h t k = w k := by
  unfold pWorks pWk4
  generalize (if t = 0 then 0 else pAm w (pWkF w p h) 28 1000) = a
  have e : (pEarns (pWk2 (pWk1 w p h (pWkF w p h)) h (pAm w (pWkF w p h) 27 9)) p (pAm w (pWkF w p h) 29 99)) k = w k := by
    unfold pEarns pWk2 pWk1
    rw [p_off (by omega), p_off (by omega), p_off (by omega)]
  generalize (pEarns (pWk2 (pWk1 w p h (pWkF w p h)) h (pAm w (pWkF w p h) 27 9)) p (pAm w (pWkF w p h) 29 99)) = w3 at e ⊢
  by_cases a0 : 0 < a
  · rw [if_pos a0]
    by_cases a1 : am_irem (am_iushr (am_wrap (1664525 * w3 3 + 1013904223)) 8) 1000 < a
    · rw [if_pos a1]
      unfold pDraw
      rw [p_off (by omega), p_off (by omega), e]
    · rw [if_neg a1]
      unfold pDraw
      rw [p_off (by omega), e]
  · rw [if_neg a0, e]
theorem pWorks_coin {w : Int → Int} {p h t : Int} (hh : 0 ≤ h ∧ h < 16) (hp : 0 ≤ p ∧ p < 8) (hk : -1 ≤ pp w p 1 ∧ pp w p 1 ≤ 3) (ht : pp w p 1 ≠ -1) (hc : 0 ≤ pp w p 0 ∧ pp w p 0 ≤ 9999) : pp (pWorks w p h t) p 0 = min 9999 (pp w p 0 + pAm w (pWkF w p h) 29 99) := by
  unfold pWorks pWk4
  generalize (if t = 0 then 0 else pAm w (pWkF w p h) 28 1000) = a
  have e : pp (pEarns (pWk2 (pWk1 w p h (pWkF w p h)) h (pAm w (pWkF w p h) 27 9)) p (pAm w (pWkF w p h) 29 99)) p 0 = min 9999 (pp w p 0 + pAm w (pWkF w p h) 29 99) := by
    unfold pEarns
    rw [pp_up _ _ _ _ _ _ (by omega) (by omega), if_pos ⟨rfl, rfl⟩]
    unfold pWk2 pWk1
    rw [pp_off (by omega), pp_off (by omega)]
  generalize (pEarns (pWk2 (pWk1 w p h (pWkF w p h)) h (pAm w (pWkF w p h) 27 9)) p (pAm w (pWkF w p h) 29 99)) = w3 at e ⊢
  by_cases a0 : 0 < a
  · rw [if_pos a0]
    by_cases a1 : am_irem (am_iushr (am_wrap (1664525 * w3 3 + 1013904223)) 8) 1000 < a
    · rw [if_pos a1]
      unfold pDraw
      rw [pp_off (by omega), pp_off (by omega), e]
    · rw [if_neg a1]
      unfold pDraw
      rw [pp_off (by omega), e]
  · rw [if_neg a0, e]
theorem pWorks_WF {w : Int → Int} {p h t : Int} (hw : WF w) (hh : 0 ≤ h ∧ h < 2 * w 276) (hp : 0 ≤ p ∧ p < w 276) (ht : pp w p 1 ≠ -1) : WF (pWorks w p h t) := by
  have n2 := hw.1.2.1
  have hk := (hw.2.1 p hp.1 (by omega)).2
  have hc := (hw.2.1 p hp.1 (by omega)).1
  have off : ∀ k, k ≠ 3 → k ≠ 4 + 4 * p + 0 → (k < 36 + 10 * h ∨ 36 + 10 * h + 5 < k) → pWorks w p h t k = w k := fun k => pWorks_off hk ht
  have co := pWorks_coin (t := t) (h := h) (by omega) (by omega) hk ht hc
  have ra := pAm_range (w := w) (F := pWkF w p h) (word := 29) (high := 99) (by omega)
  refine WF_same hw ⟨off 1 (by omega) (by omega) (by omega), off 2 (by omega) (by omega) (by omega), off 276 (by omega) (by omega) (by omega)⟩ ?_ ?_ ?_ ?_ ?_
  · intro q h0 h1
    have hq := hw.2.1 q h0 h1
    refine ⟨?_, by unfold pp; rw [off _ (by omega) (by omega) (by omega)]; exact hq.2⟩
    by_cases e : q = p
    · rw [e, co]; omega
    · unfold pp; rw [off _ (by omega) (by omega) (by omega)]; exact hq.1
  · refine WFh_same hw.2.2.1 (off 276 (by omega) (by omega) (by omega)) ?_ ?_
    · intro g h0 h1
      unfold ph
      rw [off _ (by omega) (by omega) (by omega)]
    · intro g h0 h1
      unfold ph
      rw [off _ (by omega) (by omega) (by omega)]
      exact hw.2.2.1.2.1 g h0 h1
  · intro i f h0 h1 h2 h3
    unfold pl
    rw [off _ (by omega) (by omega) (by omega)]
  · intro q h0 h1
    refine ⟨fun f k1 k2 => ?_, ?_⟩
    · unfold pp
      rw [off _ (by omega) (by omega) (by omega)]
    · rw [off _ (by omega) (by omega) (by omega)]
  · intro g h0 h1 f k1 k2
    unfold ph
    rw [off _ (by omega) (by omega) (by omega)]
/-- marks -/
def pMk (w : Int → Int) (n : Int) : Int → Int := fun k => if 36 ≤ k ∧ k < 36 + 10 * n ∧ w (36 + 10 * ((k - 36) / 10) + 8) ≠ -1 then (if (k - 36) % 10 = 7 then am_wrap (w k + 1) else if (k - 36) % 10 = 6 then am_ior (w k) (am_ishl 1 (w (36 + 10 * ((k - 36) / 10) + 8))) else w k) else w k
theorem pMk_off {w : Int → Int} {n k : Int} (h : k < 36 + 6 ∨ 36 + 10 * n ≤ k ∨ ((k - 36) % 10 ≠ 7 ∧ (k - 36) % 10 ≠ 6)) : pMk w n k = w k := by
  unfold pMk
  by_cases h1 : 36 ≤ k ∧ k < 36 + 10 * n ∧ w (36 + 10 * ((k - 36) / 10) + 8) ≠ -1
  · rw [if_pos h1, if_neg (by omega), if_neg (by omega)]
  · rw [if_neg h1]
theorem pMk_next1 {w : Int → Int} {n : Int} (h0 : 0 ≤ n) (h : w (36 + 10 * n + 8) = -1) : pMk w (n + 1) = pMk w n := by
  funext k
  unfold pMk
  by_cases h1 : 36 ≤ k ∧ k < 36 + 10 * n ∧ w (36 + 10 * ((k - 36) / 10) + 8) ≠ -1
  · rw [if_pos h1, if_pos ⟨h1.1, by omega, h1.2.2⟩]
  · rw [if_neg h1]
    by_cases h2 : 36 + 10 * n ≤ k ∧ k < 36 + 10 * (n + 1)
    · rw [if_neg]
      intro q
      rw [show (k - 36) / 10 = n from by omega] at q
      exact q.2.2 h
    · rw [if_neg]
      intro q
      exact h1 ⟨q.1, by omega, q.2.2⟩
theorem pMk_next2 {w : Int → Int} {n : Int} (h0 : 0 ≤ n) (h : w (36 + 10 * n + 8) ≠ -1) : pMk w (n + 1) = p_up (p_up (pMk w n) (36 + 10 * n + 7) (am_wrap (w (36 + 10 * n + 7) + 1))) (36 + 10 * n + 6) (am_ior (w (36 + 10 * n + 6)) (am_ishl 1 (w (36 + 10 * n + 8)))) := by
  funext k
  unfold p_up
  by_cases k6 : k = 36 + 10 * n + 6
  · rw [if_pos k6]
    unfold pMk
    rw [show (k - 36) / 10 = n from by omega, if_pos ⟨by omega, by omega, h⟩, if_neg (by omega), if_pos (by omega), k6]
  · rw [if_neg k6]
    by_cases k7 : k = 36 + 10 * n + 7
    · rw [if_pos k7]
      unfold pMk
      rw [show (k - 36) / 10 = n from by omega, if_pos ⟨by omega, by omega, h⟩, if_pos (by omega), k7]
    · rw [if_neg k7]
      by_cases h2 : 36 + 10 * n ≤ k ∧ k < 36 + 10 * (n + 1)
      · rw [pMk_off (by omega), pMk_off (by omega)]
      · unfold pMk
        by_cases h1 : 36 ≤ k ∧ k < 36 + 10 * n ∧ w (36 + 10 * ((k - 36) / 10) + 8) ≠ -1
        · rw [if_pos h1, if_pos ⟨h1.1, by omega, h1.2.2⟩]
        · rw [if_neg h1, if_neg]
          intro q
          exact h1 ⟨q.1, by omega, q.2.2⟩
def pMarks (w : Int → Int) : Int → Int := pMk w (2 * w 276)
theorem m85_2 (d : Nat) (M : am_M) (w : Int → Int) (hn : 0 ≤ w 276 ∧ w 276 ≤ 8) : ∀ (k : Nat) (i : Int) (o2 : Option am_V), i = 2 * w 276 - k → 0 ≤ i → am_L (d + 1) 85 2 [some (.inr 186), some (.inl i), o2] [] (p_st M 187 (pMk w i)) = some (0, p_st M 187 (pMarks w)) := by
  intro k
  induction k with
  | zero =>
    intro i o2 hi h0
    obtain rfl : i = 2 * w 276 := by omega
    have e : pMk w (2 * w 276) 276 = w 276 := pMk_off (by omega)
    rw [e85_2]
    simp (disch := omega) only [p_w, p_c, if_neg, p_st1, e, pMarks]
  | succ k ih =>
    intro i o2 hi h0
    have e : pMk w i 276 = w 276 := pMk_off (by omega)
    have e8 : ph (pMk w i) i 8 = w (36 + 10 * i + 8) := pMk_off (by omega)
    have e7 : ph (pMk w i) i 7 = w (36 + 10 * i + 7) := pMk_off (by omega)
    have e6 : ph (p_up (pMk w i) (36 + 10 * i + 7) (am_wrap (w (36 + 10 * i + 7) + 1))) i 6 = w (36 + 10 * i + 6) := by
      rw [ph_up _ _ _ _ _ _ (by omega) (by omega), if_neg (by omega)]
      exact pMk_off (by omega)
    rw [e85_2]
    simp (disch := omega) only [p_c, if_pos, p_st1, e, m5, p_b, e8]
    by_cases h : w (36 + 10 * i + 8) = -1
    · rw [if_pos (by rw [p_w] <;> omega), if_pos h, p_w (by omega) (by omega), ← pMk_next1 h0 h]
      exact ih (i + 1) _ (by omega) (by omega)
    · rw [if_pos (by rw [p_w] <;> omega), if_neg h]
      simp (disch := omega) only [m5, m6, p_b, p_st1, p_st3, e7, e6, p_w]
      rw [← pMk_next2 h0 h]
      exact ih (i + 1) _ (by omega) (by omega)
theorem m85 (d : Nat) (M : am_M) (hn : 0 ≤ M 187 276 ∧ M 187 276 ≤ 8) : am_run (d + 2) 85 [.inr 186] M = some (0, p_st M 187 (pMarks (M 187))) := by
  rw [e85]
  have := m85_2 d M (M 187) hn (2 * M 187 276).toNat 0 none (by omega) (by omega)
  rwa [show pMk (M 187) 0 = M 187 from by funext k; exact pMk_off (by omega), p_st5] at this
theorem pMarks_WF {w : Int → Int} (hw : WF w) : WF (pMarks w) := by
  have n2 := hw.1.2.1
  have off : ∀ k, (k < 36 + 6 ∨ 36 + 10 * (2 * w 276) ≤ k ∨ ((k - 36) % 10 ≠ 7 ∧ (k - 36) % 10 ≠ 6)) → pMarks w k = w k := fun k => pMk_off
  refine WF_same hw ⟨off 1 (by omega), off 2 (by omega), off 276 (by omega)⟩ ?_ ?_ ?_ ?_ ?_
  · intro q h0 h1
    unfold pp
    rw [off _ (by omega), off _ (by omega)]
    exact hw.2.1 q h0 h1
  · refine WFh_same hw.2.2.1 (off 276 (by omega)) ?_ ?_
    · intro g h0 h1
      unfold ph
      rw [off _ (by omega)]
    · intro g h0 h1
      have := hw.2.2.1.2.1 g h0 h1
      unfold ph at this ⊢
      unfold pMarks pMk
      by_cases h1 : 36 ≤ 36 + 10 * g + 7 ∧ 36 + 10 * g + 7 < 36 + 10 * (2 * w 276) ∧ w (36 + 10 * ((36 + 10 * g + 7 - 36) / 10) + 8) ≠ -1
      · rw [if_pos h1, if_pos (by omega)]
        exact p_w_in _
      · rw [if_neg h1]
        exact this
  · intro i f h0 h1 h2 h3
    unfold pl
    rw [off _ (by omega)]
  · intro q h0 h1
    refine ⟨fun f k1 k2 => ?_, ?_⟩
    · unfold pp
      rw [off _ (by omega)]
    · rw [off _ (by omega)]
  · intro g h0 h1 f k1 k2
    unfold ph
    rw [off _ (by omega)]
