/-! PURE: text: the model puts a law -/
/-- cells that putting a law's lines from i on leaves alone -/
def sOut (k i x : Int) : Prop := (x < 804 + 16 * k + i ∨ (820 + 16 * k ≤ x ∧ x < 852 + 16 * k + i) ∨ (868 + 16 * k ≤ x ∧ x < 900 + 16 * k + i) ∨ (916 + 16 * k ≤ x ∧ x < 948 + 16 * k + i) ∨ (964 + 16 * k ≤ x ∧ x < 996 + 820 * k) ∨ 1816 + 820 * k ≤ x)
theorem m50_88 (d : Nat) {k s : Int} (hk : 0 ≤ k ∧ k < 3) (hs : 0 ≤ s ∧ s ≤ 410) : ∀ (N : Nat) (i : Int) (B : am_M), i + N = 2 * s → 0 ≤ i → B 186 14 = s → pOk (am_L d 50 88 [some (.inr 186), some (.inl k), some (.inl i)] [] B) (fun r B' => r = B 186 13 ∧ (∀ b, b ≠ 187 → B' b = B b) ∧ (∀ j, i ≤ j → j < 2 * s → B' 187 (996 + 820 * k + j) = B 192 j) ∧ ∀ x, (x < 996 + 820 * k + i ∨ 1816 + 820 * k ≤ x) → B' 187 x = B 187 x) := by
  intro N
  induction N with
  | zero =>
    intro i B hN h0 h14
    rw [e50_88, h14, p_w (x := 2 * s) (by omega) (by omega), if_neg (by omega)]
    exact pOk_s ⟨rfl, fun b _ => rfl, fun j j0 j1 => by omega, fun x _ => rfl⟩
  | succ N ih =>
    intro i B hN h0 h14
    rw [e50_88, h14, p_w (x := 2 * s) (by omega) (by omega), if_pos (by omega), p_c (by omega), p_w (x := 820 * k) (by omega) (by omega), p_w (x := 996 + 820 * k) (by omega) (by omega), p_w (x := 996 + 820 * k + i) (by omega) (by omega), p_c (by omega), p_w (x := i + 1) (by omega) (by omega), p_upd]
    refine pOk_m (ih (i + 1) _ (by omega) (by omega) (by rw [p_st2 (by decide)]; exact h14)) (fun r B' ⟨g1, g2, g3, g4⟩ => ⟨?_, fun b hb => ?_, fun j j0 j1 => ?_, fun x hx => ?_⟩)
    · rw [g1, p_st2 (by decide)]
    · rw [g2 b hb, p_st2 hb]
    · by_cases e : j = i
      · rw [e, g4 _ (by omega), p_st1, p_up1]
      · rw [g3 j (by omega) j1, p_st2 (by decide)]
    · rw [g4 x (by omega), p_st1, p_off (by omega)]
theorem m50_10 (d : Nat) {k s n : Int} (hk : 0 ≤ k ∧ k < 3) (hs : 0 ≤ s ∧ s ≤ 410) (hn : 0 ≤ n ∧ n ≤ 16) : ∀ (N : Nat) (i : Int) (B : am_M), i + N = n → 0 ≤ i → B 186 14 = s → B 186 13 = n → pOk (am_L d 50 10 [some (.inr 186), some (.inl k), some (.inl i)] [] B) (fun r B' => r = n ∧ (∀ b, b ≠ 187 → B' b = B b) ∧ (∀ j, 0 ≤ j → j < 2 * s → B' 187 (996 + 820 * k + j) = B 192 j) ∧ (∀ j, i ≤ j → j < n → B' 187 (804 + 16 * k + j) = B 191 (4 * j) ∧ B' 187 (852 + 16 * k + j) = B 191 (4 * j + 1) ∧ B' 187 (900 + 16 * k + j) = B 191 (4 * j + 2) ∧ B' 187 (948 + 16 * k + j) = B 191 (4 * j + 3)) ∧ ∀ x, sOut k i x → B' 187 x = B 187 x) := by
  intro N
  induction N with
  | zero =>
    intro i B hN h0 h14 h13
    rw [e50_10, h13, if_neg (by omega)]
    refine pOk_m (m50_88 d hk hs (2 * s).toNat 0 B (by omega) (by omega) h14) (fun r B' ⟨g1, g2, g3, g4⟩ => ⟨g1.trans h13, g2, g3, fun j j0 j1 => by omega, fun x hx => ?_⟩)
    unfold sOut at hx
    exact g4 x (by omega)
  | succ N ih =>
    intro i B hN h0 h14 h13
    rw [e50_10, h13, if_pos (by omega)]
    simp only [p_upd, p_st1, p_st2 (show (191 : Nat) ≠ 187 by decide), p_st3]
    rw [p_w (x := 4 * i) (by omega) (by omega), p_w (x := 4 * i + 1) (by omega) (by omega), p_w (x := 4 * i + 2) (by omega) (by omega), p_w (x := 4 * i + 3) (by omega) (by omega), p_w (x := 16 * k) (by omega) (by omega), p_w (x := 804 + 16 * k) (by omega) (by omega), p_w (x := 852 + 16 * k) (by omega) (by omega), p_w (x := 900 + 16 * k) (by omega) (by omega), p_w (x := 948 + 16 * k) (by omega) (by omega), p_w (x := 804 + 16 * k + i) (by omega) (by omega), p_w (x := 852 + 16 * k + i) (by omega) (by omega), p_w (x := 900 + 16 * k + i) (by omega) (by omega), p_w (x := 948 + 16 * k + i) (by omega) (by omega), p_w (x := i + 1) (by omega) (by omega), p_c (by omega), p_c (by omega), p_c (by omega), p_c (by omega), p_c (by omega), p_c (by omega), p_c (by omega), p_c (by omega)]
    refine pOk_m (ih (i + 1) _ (by omega) (by omega) (by rw [p_st2 (by decide)]; exact h14) (by rw [p_st2 (by decide)]; exact h13)) (fun r B' ⟨g1, g2, g3, g4, g5⟩ => ⟨g1, fun b hb => ?_, fun j j0 j1 => ?_, fun j j0 j1 => ?_, fun x hx => ?_⟩)
    · rw [g2 b hb, p_st2 hb]
    · rw [g3 j j0 j1, p_st2 (by decide)]
    · by_cases e : j = i
      · rw [e, g5 _ (by unfold sOut; omega), g5 _ (by unfold sOut; omega), g5 _ (by unfold sOut; omega), g5 _ (by unfold sOut; omega), p_st1]
        refine ⟨?_, ?_, ?_, ?_⟩
        · rw [p_off (by omega), p_off (by omega), p_off (by omega), p_up1]
        · rw [p_off (by omega), p_off (by omega), p_up1]
        · rw [p_off (by omega), p_up1]
        · rw [p_up1]
      · have := g4 j (by omega) j1
        rw [p_st2 (by decide)] at this
        exact this
    · unfold sOut at hx
      rw [g5 x (by unfold sOut; omega), p_st1, p_off (by omega), p_off (by omega), p_off (by omega), p_off (by omega)]
theorem m50 (d : Nat) {k s n : Int} (hk : 0 ≤ k ∧ k < 3) (hs : 0 ≤ s ∧ s ≤ 410) (hn : 0 ≤ n ∧ n ≤ 16) {B : am_M} (h14 : B 186 14 = s) (h13 : B 186 13 = n) : pOk (am_run (d + 1) 50 [.inr 186, .inl k] B) (fun r B' => r = n ∧ (∀ b, b ≠ 187 → B' b = B b) ∧ B' 187 (288 + k) = n ∧ (∀ j, 0 ≤ j → j < 2 * s → B' 187 (996 + 820 * k + j) = B 192 j) ∧ (∀ j, 0 ≤ j → j < n → B' 187 (804 + 16 * k + j) = B 191 (4 * j) ∧ B' 187 (852 + 16 * k + j) = B 191 (4 * j + 1) ∧ B' 187 (900 + 16 * k + j) = B 191 (4 * j + 2) ∧ B' 187 (948 + 16 * k + j) = B 191 (4 * j + 3)) ∧ ∀ x, x ≠ 288 + k → sOut k 0 x → B' 187 x = B 187 x) := by
  rw [e50, p_w (x := 288 + k) (by omega) (by omega), p_c (by omega), h13, p_upd]
  refine pOk_m (m50_10 d hk hs hn n.toNat 0 _ (by omega) (by omega) (by rw [p_st2 (by decide)]; exact h14) (by rw [p_st2 (by decide)]; exact h13)) (fun r B' ⟨g1, g2, g3, g4, g5⟩ => ⟨g1, fun b hb => ?_, ?_, fun j j0 j1 => ?_, fun j j0 j1 => ?_, fun x h1 hx => ?_⟩)
  · rw [g2 b hb, p_st2 hb]
  · rw [g5 _ (by unfold sOut; omega), p_st1, p_up1]
  · rw [g3 j j0 j1, p_st2 (by decide)]
  · have := g4 j j0 j1
    rw [p_st2 (by decide)] at this
    exact this
  · rw [g5 x hx, p_st1, p_off (by omega)]
/-- a law's own cells -/
theorem pSteps_cg {w w' : Int → Int} {k : Int} : ∀ (n : Nat) (i : Int), (∀ j, 2 * i ≤ j → j < 2 * (i + n) → w' (996 + 820 * k + j) = w (996 + 820 * k + j)) → pSteps w' k n i = pSteps w k n i := by
  intro n
  induction n with
  | zero => intro i _; rw [pSteps, pSteps]
  | succ n ih =>
    intro i h
    have e0 := h (2 * i) (by omega) (by omega)
    have e1 := h (2 * i + 1) (by omega) (by omega)
    rw [← Int.add_assoc] at e1
    rw [pSteps, pSteps, e0, e1, ih (i + 1) (fun j j0 j1 => h j (by omega) (by omega))]
def sSame (k : Int) (w w' : Int → Int) : Prop := w' (288 + k) = w (288 + k) ∧ (∀ j, 0 ≤ j → j < 16 → w' (804 + 16 * k + j) = w (804 + 16 * k + j) ∧ w' (852 + 16 * k + j) = w (852 + 16 * k + j) ∧ w' (900 + 16 * k + j) = w (900 + 16 * k + j) ∧ w' (948 + 16 * k + j) = w (948 + 16 * k + j)) ∧ ∀ j, 0 ≤ j → j < 820 → w' (996 + 820 * k + j) = w (996 + 820 * k + j)
theorem sSame_B {k : Int} {w w' : Int → Int} (h : sSame k w w') {i : Int} (hi : 0 ≤ i ∧ i < 16) (hb : 0 ≤ pFrom w k i ∧ pFrom w k i ≤ pMid w k i ∧ pMid w k i ≤ pTo w k i ∧ pTo w k i ≤ 410) : pB w' k i = pB w k i ∧ pE w' k i = pE w k i ∧ pFrom w' k i = pFrom w k i ∧ pMid w' k i = pMid w k i ∧ pTo w' k i = pTo w k i ∧ pSay w' k i = pSay w k i := by
  obtain ⟨a1, a2, a3, a4⟩ := h.2.1 i hi.1 hi.2
  have e1 : pFrom w' k i = pFrom w k i := a1
  have e2 : pMid w' k i = pMid w k i := a2
  have e3 : pTo w' k i = pTo w k i := a3
  refine ⟨?_, ?_, e1, e2, e3, a4⟩
  · unfold pB
    rw [e2, e3]
    exact pSteps_cg _ _ (fun j j0 j1 => h.2.2 j (by omega) (by omega))
  · unfold pE
    rw [e1, e2]
    exact pSteps_cg _ _ (fun j j0 j1 => h.2.2 j (by omega) (by omega))
theorem LawT_S {k : Int} {w w' : Int → Int} (h : sSame k w w') (hL : LawT w k) : LawT w' k := by
  obtain ⟨h1, h2⟩ := hL
  refine ⟨by rw [h.1]; exact h1, fun i h0 hi => ?_⟩
  rw [h.1] at hi
  have b := h2 i h0 hi
  obtain ⟨e1, e2, e3, e4, e5, e6⟩ := sSame_B h ⟨h0, by omega⟩ b.1
  rw [e1, e2, e3, e4, e5, e6]
  exact b
theorem LawR_S {M : am_M} {a : Nat} {k : Int} {w w' : Int → Int} (h : sSame k w w') (hL : LawT w k) (hR : LawR M a w k) : LawR M a w' k := by
  refine ⟨by rw [h.1]; exact hR.1, fun i h0 hi => ?_⟩
  rw [h.1] at hi
  have hl := hL.1
  obtain ⟨e1, e2, e3, e4, e5, e6⟩ := sSame_B h ⟨h0, by omega⟩ (hL.2 i h0 hi).1
  rw [e1, e2, e6]
  exact hR.2 i h0 hi
