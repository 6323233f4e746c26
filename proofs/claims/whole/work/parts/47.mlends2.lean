/-! PURE: what a loan leaves, in the model -/
theorem pG_ph (w : Int → Int) (h p g f : Int) (hf : 0 ≤ f ∧ f < 10) : ph (pGoes w h p) g f = if g = h ∧ f = 8 then p else if g = h ∧ f = 7 then 0 else ph w g f := by
  unfold pGoes
  rw [ph_up _ _ _ _ _ _ (by omega) hf, ph_up _ _ _ _ _ _ (by omega) hf]
  by_cases h1 : g = h ∧ f = 8
  · rw [if_neg (by omega), if_pos h1, if_pos h1]
  · by_cases h2 : g = h ∧ f = 7
    · rw [if_pos h2, if_neg h1, if_pos h2]
    · rw [if_neg h2, if_neg h1, if_neg h1, if_neg h2]
theorem pG_off {w : Int → Int} {h p k : Int} (hk : k < 36 + 10 * h + 7 ∨ 36 + 10 * h + 8 < k) : pGoes w h p k = w k := by
  unfold pGoes
  rw [p_off (by omega), p_off (by omega)]
/-- the loan can be -/
def pLok (w : Int → Int) (h to n price : Int) : Prop := ((0 ≤ h ∧ h ≤ 2 * w 276 - 1) ∧ (0 ≤ to ∧ to ≤ w 276 - 1)) ∧ ((1 ≤ n ∧ n ≤ 99) ∧ 0 ≤ price ∧ price ≤ 99) ∧ ¬ w 1 = 16 ∧ ¬ ph w h 8 = -1 ∧ ¬ ph w h 8 = to ∧ ¬ pp w to 0 < n * price
theorem pCan_ok {w : Int → Int} {h to n price : Int} (hc : pCan w h to n price = true) : pLok w h to n price := by
  obtain ⟨h1, h2, h3, h4, h5, h6, h7, h8, h9⟩ := of_decide_eq_true hc
  exact ⟨⟨h1, h2⟩, h3, h4, h5, h6, h8⟩
theorem pLends_hi {w : Int → Int} {h to n price k : Int} (hw : WF w) (hc : pLok w h to n price) (hk : k = 0 ∨ k = 2 ∨ k = 3 ∨ 276 ≤ k ∨ k < 0) : pLends w h to n price k = w k := by
  obtain ⟨⟨c1, c2⟩, c3, c4, c5, c6, c7⟩ := hc
  obtain ⟨⟨n1, n2, n3⟩, hp, hh, hl, hz⟩ := hw
  have a1 := hh.1 h c1.1 (by omega)
  have hr := pOn_range (w := w) (p := to) (s := h % 2) (by omega) n2.1
  unfold pLends
  rw [pG_off (by omega)]
  have e : pPaid w h to n price k = w k := by
    unfold pPaid pEarns pRow
    simp (disch := omega) only [p_off]
  by_cases hq : pOn w to (h % 2) = -1
  · rw [if_pos hq, e]
  · rw [if_neg hq, pG_off (by omega), e]
theorem pLends_1 {w : Int → Int} {h to n price : Int} (hw : WF w) (hc : pLok w h to n price) : pLends w h to n price 1 = w 1 + 1 := by
  obtain ⟨⟨c1, c2⟩, c3, c4, c5, c6, c7⟩ := hc
  obtain ⟨⟨n1, n2, n3⟩, hp, hh, hl, hz⟩ := hw
  have a1 := hh.1 h c1.1 (by omega)
  have hr := pOn_range (w := w) (p := to) (s := h % 2) (by omega) n2.1
  unfold pLends
  rw [pG_off (by omega)]
  have e : pPaid w h to n price 1 = w 1 + 1 := by
    unfold pPaid pEarns pRow
    simp (disch := omega) only [p_off, p_up1]
  by_cases hq : pOn w to (h % 2) = -1
  · rw [if_pos hq, e]
  · rw [if_neg hq, pG_off (by omega), e]
theorem pLends_ph {w : Int → Int} {h to n price g f : Int} (hw : WF w) (hc : pLok w h to n price) (hg : 0 ≤ g ∧ g < 16) (hf : 0 ≤ f ∧ f < 10) : ph (pLends w h to n price) g f = if f = 8 then (if g = h then to else if g = pOn w to (h % 2) then -1 else ph w g 8) else if f = 7 then (if g = h ∨ g = pOn w to (h % 2) then 0 else ph w g 7) else ph w g f := by
  obtain ⟨⟨c1, c2⟩, c3, c4, c5, c6, c7⟩ := hc
  obtain ⟨⟨n1, n2, n3⟩, hp, hh, hl, hz⟩ := hw
  have a1 := hh.1 h c1.1 (by omega)
  have hr := pOn_range (w := w) (p := to) (s := h % 2) (by omega) n2.1
  have e : ∀ g f, 0 ≤ g ∧ g < 16 → 0 ≤ f ∧ f < 10 → ph (pPaid w h to n price) g f = ph w g f := by
    intro g f h1 h2
    unfold pPaid pEarns pRow
    simp (disch := omega) only [ph_off]
  unfold pLends
  rw [pG_ph _ _ _ _ _ hf]
  by_cases f8 : f = 8
  · subst f8
    rw [if_pos rfl]
    by_cases g1 : g = h
    · rw [if_pos ⟨g1, rfl⟩, if_pos g1]
    · rw [if_neg (by omega), if_neg (by omega), if_neg g1]
      by_cases hq : pOn w to (h % 2) = -1
      · rw [if_pos hq, e _ _ hg hf, if_neg (by omega)]
      · rw [if_neg hq, pG_ph _ _ _ _ _ hf]
        by_cases g2 : g = pOn w to (h % 2)
        · rw [if_pos ⟨g2, rfl⟩, if_pos g2]
        · rw [if_neg (by omega), if_neg (by omega), if_neg g2, e _ _ hg hf]
  · rw [if_neg f8, if_neg (by omega)]
    by_cases f7 : f = 7
    · subst f7
      rw [if_pos rfl]
      by_cases g1 : g = h
      · rw [if_pos ⟨g1, rfl⟩, if_pos (Or.inl g1)]
      · rw [if_neg (by omega)]
        by_cases hq : pOn w to (h % 2) = -1
        · rw [if_pos hq, e _ _ hg hf, if_neg (by omega)]
        · rw [if_neg hq, pG_ph _ _ _ _ _ hf, if_neg (by omega)]
          by_cases g2 : g = pOn w to (h % 2)
          · rw [if_pos ⟨g2, rfl⟩, if_pos (Or.inr g2)]
          · rw [if_neg (by omega), if_neg (by omega), e _ _ hg hf]
    · rw [if_neg (by omega), if_neg f7]
      by_cases hq : pOn w to (h % 2) = -1
      · rw [if_pos hq, e _ _ hg hf]
      · rw [if_neg hq, pG_ph _ _ _ _ _ hf, if_neg (by omega), if_neg (by omega), e _ _ hg hf]
theorem pp_goes {w : Int → Int} {h q p f : Int} (hp : 0 ≤ p ∧ p < 8) (hf : 0 ≤ f ∧ f < 4) (hh : 0 ≤ h) : pp (pGoes w h q) p f = pp w p f := by
  unfold pGoes
  rw [pp_off (by omega), pp_off (by omega)]
theorem pl_goes {w : Int → Int} {h q i f : Int} (hi : 0 ≤ i) (hf : 0 ≤ f) (hh : 0 ≤ h ∧ h < 16) : pl (pGoes w h q) i f = pl w i f := by
  unfold pGoes
  rw [pl_off (by omega), pl_off (by omega)]
theorem pLends_pp {w : Int → Int} {h to n price p f : Int} (hw : WF w) (hc : pLok w h to n price) (hp : 0 ≤ p ∧ p < 8) (hf : 0 ≤ f ∧ f < 4) : pp (pLends w h to n price) p f = if f = 0 then (if p = to then pp w p 0 - n * price else if p = ph w h 8 then min 9999 (pp w p 0 + n * price) else pp w p 0) else pp w p f := by
  obtain ⟨⟨c1, c2⟩, c3, c4, c5, c6, c7⟩ := hc
  obtain ⟨⟨n1, n2, n3⟩, hpp, hh, hl, hz⟩ := hw
  have a1 := hh.1 h c1.1 (by omega)
  have hm := p_mul (a := n) (b := price) (by omega) c3.2
  have hr := pOn_range (w := w) (p := to) (s := h % 2) (by omega) n2.1
  have b1 := (hpp to c2.1 (by omega)).1
  have e : pp (pPaid w h to n price) p f = if f = 0 then (if p = to then pp w p 0 - n * price else if p = ph w h 8 then min 9999 (pp w p 0 + n * price) else pp w p 0) else pp w p f := by
    have e1 : ∀ p f, 0 ≤ p ∧ p < 8 → 0 ≤ f ∧ f < 4 → pp (pRow w h to n price) p f = pp w p f := by
      intro p f h1 h2
      unfold pRow
      simp (disch := omega) only [pp_off]
    unfold pPaid pEarns
    rw [pp_up _ _ _ _ _ _ (by omega) hf, pp_up _ _ _ _ _ _ (by omega) (by omega), pp_up _ _ _ _ _ _ (by omega) hf, e1 _ _ (by omega) (by omega), e1 _ _ (by omega) (by omega), e1 _ _ hp hf]
    by_cases f0 : f = 0
    · subst f0
      rw [if_pos rfl]
      by_cases p1 : p = to
      · subst p1
        rw [if_neg (by omega), if_pos ⟨rfl, rfl⟩, if_pos rfl]
        omega
      · rw [if_neg p1]
        by_cases p2 : p = ph w h 8
        · rw [if_pos ⟨p2, rfl⟩, if_neg (by omega), if_pos p2, ← p2]
        · rw [if_neg (by omega), if_neg (by omega), if_neg p2]
    · rw [if_neg (by omega), if_neg (by omega), if_neg f0]
  unfold pLends
  rw [pp_goes hp hf c1.1]
  by_cases hq : pOn w to (h % 2) = -1
  · rw [if_pos hq, e]
  · rw [if_neg hq, pp_goes hp hf (by omega), e]
theorem pLends_pl {w : Int → Int} {h to n price i f : Int} (hw : WF w) (hc : pLok w h to n price) (hi : 0 ≤ i ∧ i < 16) (hf : 0 ≤ f ∧ f < 5) : pl (pLends w h to n price) i f = if i = w 1 then (if f = 0 then h else if f = 1 then ph w h 8 else if f = 2 then to else if f = 3 then w 0 + n else price) else pl w i f := by
  obtain ⟨⟨c1, c2⟩, c3, c4, c5, c6, c7⟩ := hc
  obtain ⟨⟨n1, n2, n3⟩, hpp, hh, hl, hz⟩ := hw
  have a1 := hh.1 h c1.1 (by omega)
  have hr := pOn_range (w := w) (p := to) (s := h % 2) (by omega) n2.1
  have e : pl (pPaid w h to n price) i f = if i = w 1 then (if f = 0 then h else if f = 1 then ph w h 8 else if f = 2 then to else if f = 3 then w 0 + n else price) else pl w i f := by
    unfold pPaid pEarns
    rw [pl_off (by omega), pl_off (by omega)]
    unfold pRow
    rw [pl_off (by omega), pl_up _ _ _ _ _ _ (by omega) hf, pl_up _ _ _ _ _ _ (by omega) hf, pl_up _ _ _ _ _ _ (by omega) hf, pl_up _ _ _ _ _ _ (by omega) hf, pl_up _ _ _ _ _ _ (by omega) hf]
    by_cases i1 : i = w 1
    · rw [if_pos i1]
      by_cases f4 : f = 4
      · rw [if_pos ⟨i1, f4⟩, if_neg (by omega), if_neg (by omega), if_neg (by omega), if_neg (by omega)]
      by_cases f3 : f = 3
      · rw [if_neg (by omega), if_pos ⟨i1, f3⟩, if_neg (by omega), if_neg (by omega), if_neg (by omega), if_pos f3]
      by_cases f2 : f = 2
      · rw [if_neg (by omega), if_neg (by omega), if_pos ⟨i1, f2⟩, if_neg (by omega), if_neg (by omega), if_pos f2]
      by_cases f1 : f = 1
      · rw [if_neg (by omega), if_neg (by omega), if_neg (by omega), if_pos ⟨i1, f1⟩, if_neg (by omega), if_pos f1]
      · rw [if_neg (by omega), if_neg (by omega), if_neg (by omega), if_neg (by omega), if_pos ⟨i1, by omega⟩, if_pos (by omega)]
    · simp only [i1, false_and, if_false]
  unfold pLends
  rw [pl_goes hi.1 hf.1 (by omega)]
  by_cases hq : pOn w to (h % 2) = -1
  · rw [if_pos hq, e]
  · rw [if_neg hq, pl_goes hi.1 hf.1 (by omega), e]
theorem pLends_WF {w : Int → Int} {h to n price : Int} (hw : WF w) (hc : pLok w h to n price) : WF (pLends w h to n price) := by
  have e276 := pLends_hi hw hc (k := 276) (by omega)
  have e2 := pLends_hi hw hc (k := 2) (by omega)
  have e1 := pLends_1 hw hc
  have eph := @pLends_ph w h to n price
  have epp := @pLends_pp w h to n price
  have epl := @pLends_pl w h to n price
  have hw' := hw
  have hc' := hc
  obtain ⟨⟨c1, c2⟩, c3, c4, c5, c6, c7⟩ := hc
  obtain ⟨⟨n1, n2, n3⟩, hp, hh, hl, hz⟩ := hw
  have a1 := hh.1 h c1.1 (by omega)
  have hm := p_mul (a := n) (b := price) (by omega) c3.2
  have hr := pOn_range (w := w) (p := to) (s := h % 2) (by omega) n2.1
  have b1 := (hp to c2.1 (by omega)).1
  refine ⟨⟨by omega, by omega, by omega⟩, ?_, ⟨?_, ?_, ?_⟩, ?_, ⟨?_, ?_⟩⟩
  · intro p h0 h1
    have b2 := hp p h0 h1
    rw [epp hw' hc' ⟨h0, h1⟩ (by omega), epp hw' hc' ⟨h0, h1⟩ (by omega), if_pos rfl, if_neg (show ¬ (1 : Int) = 0 by omega)]
    refine ⟨?_, b2.2⟩
    by_cases p1 : p = to
    · rw [if_pos p1, p1]; omega
    · rw [if_neg p1]
      by_cases p2 : p = ph w h 8
      · rw [if_pos p2]; omega
      · rw [if_neg p2]; exact b2.1
  · intro g h0 h1
    rw [e276] at h1 ⊢
    rw [eph hw' hc' ⟨h0, by omega⟩ (by omega), if_pos rfl]
    have := hh.1 g h0 h1
    by_cases g1 : g = h
    · rw [if_pos g1]; omega
    · rw [if_neg g1]
      by_cases g2 : g = pOn w to (h % 2)
      · rw [if_pos g2]; omega
      · rw [if_neg g2]; exact this
  · intro g h0 h1
    rw [eph hw' hc' ⟨h0, h1⟩ (by omega), if_neg (by omega), if_pos rfl]
    have := hh.2.1 g h0 h1
    by_cases g1 : g = h ∨ g = pOn w to (h % 2)
    · rw [if_pos g1]; omega
    · rw [if_neg g1]; exact this
  · intro a b h0 h1 h2 h3 h4
    rw [e276] at h1 h3
    have no : ∀ g, 0 ≤ g → g < 2 * w 276 → g % 2 = h % 2 → g ≠ pOn w to (h % 2) → ph w g 8 ≠ to := by
      intro g k1 k2 k3 k4 k5
      exact k4 (pOn_is hh (by omega) (by omega) n2.1 ⟨k1, k2⟩ k3 k5).symm
    rw [eph hw' hc' ⟨h0, by omega⟩ (by omega), eph hw' hc' ⟨h2, by omega⟩ (by omega), if_pos rfl, if_pos rfl]
    have hu := hh.2.2 a b h0 h1 h2 h3 h4
    by_cases g1 : a = h
    · rw [if_pos g1]
      by_cases g2 : b = h
      · intro _ _; omega
      · rw [if_neg g2]
        by_cases g3 : b = pOn w to (h % 2)
        · rw [if_pos g3]; intro _ _; omega
        · rw [if_neg g3]
          intro k1 _
          exact absurd k1.symm (no b h2 h3 (by omega) g3)
    · rw [if_neg g1]
      by_cases g2 : b = h
      · rw [if_pos g2]
        by_cases g3 : a = pOn w to (h % 2)
        · rw [if_pos g3]; intro _ _; omega
        · rw [if_neg g3]
          intro k1 _
          exact absurd k1 (no a h0 h1 (by omega) g3)
      · rw [if_neg g2]
        by_cases g3 : a = pOn w to (h % 2)
        · rw [if_pos g3]; intro _ q; exact absurd rfl q
        · rw [if_neg g3]
          by_cases g4 : b = pOn w to (h % 2)
          · rw [if_pos g4]; intro q1 q2; exact absurd q1 q2
          · rw [if_neg g4]; exact hu
  · intro i h0 h1
    rw [e1] at h1
    rw [e276, epl hw' hc' ⟨h0, by omega⟩ (by omega), epl hw' hc' ⟨h0, by omega⟩ (by omega), epl hw' hc' ⟨h0, by omega⟩ (by omega)]
    by_cases i1 : i = w 1
    · simp only [i1, if_true]
      simp (disch := omega) only [if_pos, if_neg]
      omega
    · rw [if_neg i1, if_neg i1, if_neg i1]
      exact hl i h0 (by omega)
  · intro p h0 h1
    rw [e276] at h0
    have := hz.1 p h0 h1
    refine ⟨fun f k1 k2 => ?_, by rw [pLends_hi hw' hc' (by omega)]; exact this.2⟩
    rw [epp hw' hc' ⟨by omega, h1⟩ ⟨k1, k2⟩, if_neg (show ¬ p = to by omega), if_neg (show ¬ p = ph w h 8 by omega), this.1 f k1 k2]
    by_cases f0 : f = 0
    · rw [if_pos f0, this.1 0 (by omega) (by omega)]
    · rw [if_neg f0]
  · intro g h0 h1 f k1 k2
    rw [e276] at h0
    have z := hz.2 g h0 h1
    rw [eph hw' hc' ⟨by omega, h1⟩ ⟨k1, k2⟩, if_neg (show ¬ g = h by omega), if_neg (show ¬ g = pOn w to (h % 2) by omega), if_neg (show ¬ (g = h ∨ g = pOn w to (h % 2)) by omega), z f k1 k2]
    by_cases f8 : f = 8
    · rw [if_pos f8, z 8 (by omega) (by omega)]
    · rw [if_neg f8]
      by_cases f7 : f = 7
      · rw [if_pos f7, z 7 (by omega) (by omega)]
      · rw [if_neg f7]
