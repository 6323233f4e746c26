-- needs: 02 03 04 05 06 07 08 40 41 42 43 44 44b
/-! PURE: may and can be lent, in the model -/
theorem p_mul {a b : Int} (ha : 0 ≤ a ∧ a ≤ 99) (hb : 0 ≤ b ∧ b ≤ 99) : 0 ≤ a * b ∧ a * b ≤ 9801 := by
  refine ⟨Int.mul_nonneg ha.1 hb.1, ?_⟩
  have h1 : a * b ≤ 99 * b := Int.mul_le_mul_of_nonneg_right ha.2 hb.1
  omega
theorem p_find_range (P : Int → Bool) (s : Int) : ∀ (k : Nat) (i : Int), p_find P s k i = -1 ∨ ∃ j : Nat, j < k ∧ p_find P s k i = i + s * j ∧ P (i + s * j) = true := by
  intro k
  induction k with
  | zero => intro i; exact Or.inl rfl
  | succ k ih =>
    intro i
    rw [p_find]
    by_cases h : P i = true
    · rw [if_pos h]
      exact Or.inr ⟨0, by omega, by simp, by simpa using h⟩
    · rw [if_neg h]
      rcases ih (i + s) with h1 | ⟨j, h1, h2, h3⟩
      · exact Or.inl h1
      · have e : i + s * ((j + 1 : Nat) : Int) = i + s + s * (j : Int) := by
          rw [Int.natCast_add, Int.mul_add]
          simp
          omega
        exact Or.inr ⟨j + 1, by omega, by rw [e]; exact h2, by rw [e]; exact h3⟩
theorem pLatest_range {w : Int → Int} {h : Int} (hn : 0 ≤ w 1) : pLatest w h = -1 ∨ (0 ≤ pLatest w h ∧ pLatest w h < w 1 ∧ pl w (pLatest w h) 0 = h) := by
  rcases p_find_range (fun i => decide (pl w i 0 = h)) (-1) (w 1).toNat (w 1 - 1) with h1 | ⟨j, h1, h2, h3⟩
  · exact Or.inl h1
  · refine Or.inr ?_
    have h3 := of_decide_eq_true h3
    unfold pLatest
    rw [h2]
    exact ⟨by omega, by omega, h3⟩
def pMayF (w : Int → Int) (h to n price : Int) (f : Int → Int) : Int → Int := p_up (p_up (p_up (p_up (pHF w h to f) 5 n) 6 price) 7 (pp w to 0)) 10 (pLoans w h)
def pMay (w : Int → Int) (h to n price : Int) : Bool := decide (pSays w (pMayF w h to n price (fun _ => 0)) 0 20 (w 288).toNat 0 = 20)
theorem pMayF_dep (w : Int → Int) (h to n price : Int) (f g : Int → Int) : ∀ s ∈ pA 0, pMayF w h to n price f s = pMayF w h to n price g s := by
  intro s hs
  simp only [pA, if_true, List.mem_cons, List.not_mem_nil, or_false] at hs
  rcases hs with rfl | rfl | rfl | rfl | rfl | rfl | rfl | rfl | rfl | rfl <;> simp [pMayF, pHF, p_up]
theorem m63 (d : Nat) (h to n price : Int) (M : am_M) (hh : 0 ≤ h ∧ h < 16) (ht : 0 ≤ to ∧ to < 8) (hn : 0 ≤ M 187 1 ∧ M 187 1 ≤ 16) (hL : pLaw (M 187) 0) : ∃ pile, am_run (d + 5) 63 [.inr 186, .inl h, .inl to, .inl n, .inl price] M = some (if pMay (M 187) h to n price = true then 1 else 0, p_st (p_st M 195 pile) 196 (pMayF (M 187) h to n price (M 196))) := by
  obtain ⟨pile, hp⟩ := m57 d 0 20 (p_st M 196 (pMayF (M 187) h to n price (M 196))) (by omega) (by rw [p_st2 (by decide)]; exact hL)
  have h0 : 0 ≤ M 187 288 := hL.1.1
  rw [p_st1, p_st2 (by decide), show (288 : Int) + 0 = 288 from rfl, pSays_dep hL (pMayF_dep (M 187) h to n price (M 196) (fun _ => 0)) _ 0 (Int.le_refl _) (by show (0 : Int) + _ = M 187 288; omega), p_st4 (by decide)] at hp
  refine ⟨pile, ?_⟩
  rw [e63]
  simp (disch := first | omega | (simp (disch := omega) only [p_st1, p_st2]; omega)) only [p_b, p_c, p_w, p_upd, p_st1, p_st2, p_st3, p_up1, p_up2, p_up3, p_i0, p_i1, p_bi, if_pos, if_neg, if_true, if_false, Bool.false_eq_true, m62, m3, m60, p_st2]
  unfold pMayF at hp
  rw [hp]
  simp (disch := omega) only [p_b, p_c, p_w, p_upd, p_st1, p_st2, p_st3, p_up1, p_up2, p_up3, p_i0, p_i1, p_bi, if_pos, if_neg, if_true, if_false, Bool.false_eq_true]
  by_cases hc : pSays (M 187) (pMayF (M 187) h to n price (fun _ => 0)) 0 20 (M 187 288).toNat 0 = 20
  · have : pMay (M 187) h to n price = true := decide_eq_true hc
    unfold pMayF at hc
    rw [if_pos hc, this]
    rfl
  · have : pMay (M 187) h to n price = false := decide_eq_false hc
    unfold pMayF at hc
    rw [if_neg hc, this]
    rfl
def pCan (w : Int → Int) (h to n price : Int) : Bool := decide ((0 ≤ h ∧ h ≤ 2 * w 276 - 1) ∧ (0 ≤ to ∧ to ≤ w 276 - 1) ∧ ((1 ≤ n ∧ n ≤ 99) ∧ 0 ≤ price ∧ price ≤ 99) ∧ ¬ w 1 = 16 ∧ ¬ ph w h 8 = -1 ∧ ¬ ph w h 8 = to ∧ (pLatest w h = -1 ∨ ¬ pl w (pLatest w h) 3 < w 0 + n) ∧ ¬ pp w to 0 < n * price ∧ pMay w h to n price = true)
theorem m68 (d : Nat) (h to n price : Int) (M : am_M) (hn : 0 ≤ M 187 1 ∧ M 187 1 ≤ 16) (hp : 0 ≤ M 187 276 ∧ M 187 276 ≤ 8) (hh : 0 ≤ M 187 0 ∧ M 187 0 ≤ 20000) (hL : pLaw (M 187) 0) : ∃ pile f, am_run (d + 6) 68 [.inr 186, .inl h, .inl to, .inl n, .inl price] M = some (if pCan (M 187) h to n price = true then 1 else 0, p_st (p_st M 195 pile) 196 f) := by
  have no : ∀ P : Prop, ¬ P → (pCan (M 187) h to n price = true → P) → ∃ pile f, (some (0, M) : am_R) = some (if pCan (M 187) h to n price = true then 1 else 0, p_st (p_st M 195 pile) 196 f) := by
    intro P h1 h2
    refine ⟨M 195, M 196, ?_⟩
    rw [if_neg (fun q => h1 (h2 q)), p_st5, p_st5]
  rw [e68, m9 _ _ _ hp, p_b, p_i0]
  by_cases h1 : 0 ≤ h ∧ h ≤ 2 * M 187 276 - 1
  · rw [if_pos h1, m8 _ _ _ hp, p_b, p_i0]
    by_cases h2 : 0 ≤ to ∧ to ≤ M 187 276 - 1
    · rw [if_pos h2, m67, p_b, p_i0]
      by_cases h3 : (1 ≤ n ∧ n ≤ 99) ∧ 0 ≤ price ∧ price ≤ 99
      · rw [if_pos h3, p_c (by omega)]
        have hm := p_mul (a := n) (b := price) (by omega) (by omega)
        by_cases h4 : M 187 1 = 16
        · rw [if_pos h4]
          exact no (¬ M 187 1 = 16) (fun q => q h4) (fun q => (of_decide_eq_true q).2.2.2.1)
        · rw [if_neg h4]
          simp (disch := omega) only [p_b, p_c, p_w, p_upd, p_st1, p_st2, p_st3, p_up1, p_up2, p_up3, p_i0, p_i1, p_bi, if_pos, if_neg, if_true, if_false, Bool.false_eq_true, m5]
          by_cases h5 : ph (M 187) h 8 = -1
          · rw [if_pos h5]
            exact no (¬ ph (M 187) h 8 = -1) (fun q => q h5) (fun q => (of_decide_eq_true q).2.2.2.2.1)
          · rw [if_neg h5]
            by_cases h6 : ph (M 187) h 8 = to
            · rw [if_pos h6]
              exact no (¬ ph (M 187) h 8 = to) (fun q => q h6) (fun q => (of_decide_eq_true q).2.2.2.2.2.1)
            · rw [if_neg h6]
              obtain ⟨pile, hmay⟩ := m63 d h to n price M (by omega) (by omega) hn hL
              have fin : (pLatest (M 187) h = -1 ∨ ¬ pl (M 187) (pLatest (M 187) h) 3 < M 187 0 + n) → ∃ pile f, (if pp (M 187) to 0 < n * price then some (0, M) else am_bnd (am_run (d + 5) 63 [.inr 186, .inl h, .inl to, .inl n, .inl price] M) (fun r8 M8 => (if (r8 : Int) = 0 then some (0, M8) else some (1, M8)))) = some (if pCan (M 187) h to n price = true then 1 else 0, p_st (p_st M 195 pile) 196 f) := by
                intro h7
                by_cases h8 : pp (M 187) to 0 < n * price
                · rw [if_pos h8]
                  exact no (¬ pp (M 187) to 0 < n * price) (fun q => q h8) (fun q => (of_decide_eq_true q).2.2.2.2.2.2.2.1)
                · rw [if_neg h8, hmay]
                  refine ⟨pile, pMayF (M 187) h to n price (M 196), ?_⟩
                  simp (disch := omega) only [p_b, p_c, p_w, p_upd, p_st1, p_st2, p_st3, p_up1, p_up2, p_up3, p_i0, p_i1, p_bi, if_pos, if_neg, if_true, if_false, Bool.false_eq_true]
                  by_cases h9 : pMay (M 187) h to n price = true
                  · have : pCan (M 187) h to n price = true := decide_eq_true ⟨h1, h2, h3, h4, h5, h6, h7, h8, h9⟩
                    rw [if_pos h9, if_pos this]
                  · rw [if_neg h9, if_neg (fun q => h9 (of_decide_eq_true q).2.2.2.2.2.2.2.2)]
              simp (disch := omega) only [p_b, p_c, p_w, p_upd, p_st1, p_st2, p_st3, p_up1, p_up2, p_up3, p_i0, p_i1, p_bi, if_pos, if_neg, if_true, if_false, Bool.false_eq_true, m61]
              rcases pLatest_range (w := M 187) (h := h) hn.1 with h7 | ⟨g1, g2, -⟩
              · rw [if_pos h7]
                simp (disch := omega) only [p_b, p_c, p_w, p_upd, p_st1, p_st2, p_st3, p_up1, p_up2, p_up3, p_i0, p_i1, p_bi, if_pos, if_neg, if_true, if_false, Bool.false_eq_true, m3]
                exact fin (Or.inl h7)
              · simp (disch := omega) only [p_b, p_c, p_w, p_upd, p_st1, p_st2, p_st3, p_up1, p_up2, p_up3, p_i0, p_i1, p_bi, if_pos, if_neg, if_true, if_false, Bool.false_eq_true, m7]
                by_cases h8 : pl (M 187) (pLatest (M 187) h) 3 < M 187 0 + n
                · rw [if_pos h8]
                  exact no (pLatest (M 187) h = -1 ∨ ¬ pl (M 187) (pLatest (M 187) h) 3 < M 187 0 + n) (fun q => q.elim (fun q => by omega) (fun q => q h8)) (fun q => (of_decide_eq_true q).2.2.2.2.2.2.1)
                · rw [if_neg h8]
                  simp (disch := omega) only [p_b, p_c, p_w, p_upd, p_st1, p_st2, p_st3, p_up1, p_up2, p_up3, p_i0, p_i1, p_bi, if_pos, if_neg, if_true, if_false, Bool.false_eq_true, m3]
                  exact fin (Or.inr h8)
      · rw [if_neg h3]
        exact no _ h3 (fun q => (of_decide_eq_true q).2.2.1)
    · rw [if_neg h2]
      exact no _ h2 (fun q => (of_decide_eq_true q).2.1)
  · rw [if_neg h1]
    exact no _ h1 (fun q => (of_decide_eq_true q).1)
