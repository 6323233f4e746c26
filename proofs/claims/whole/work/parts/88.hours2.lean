/-! PURE: acts: hours -/
theorem pFa_lo2 (u : Int → Int) (l : List Int) (h : Int) {f : Int} (hf : f < 27) : pFa u l h f = u f := by
  cases l with
  | nil => rfl
  | cons a l =>
    show (if u 27 = -1 then _ else _ : Int → Int) f = u f
    by_cases q : u 27 = -1
    · rw [if_pos q, p_off (by omega), p_off (by omega)]
    · rw [if_neg q]
theorem m88_19 (d : Nat) (n : Int) : ∀ (k : Nat) (i x2 c : Int) (B w : Int → Int) (M : am_M), i = n - k → 0 ≤ i → n ≤ 100 → (0 ≤ x2 ∧ x2 + 16 * k ≤ 2000) → M 187 = w → M 189 = B → M 186 4 = c → WF w → TxW w → (0 ≤ w 0 ∧ w 0 + k ≤ 9999) → (0 ≤ c ∧ c ≤ 6) → pOk (am_L (d + 9) 88 19 [some (.inr 186), some (.inl n), some (.inl x2), some (.inl i)] [] M) (fun r M' => r = x2 + pHt k w ∧ M' 187 = pHw k w ∧ M' 189 = pHB k B w c ∧ M' 186 4 = pHc k c ∧ (∀ f, f < 27 → f ≠ 4 → M' 186 f = M 186 f) ∧ ∀ b, b ≠ 186 → b ≠ 187 → b ≠ 189 → b ≠ 195 → b ≠ 196 → M' b = M b) := by
  intro k
  induction k with
  | zero =>
    intro i x2 c B w M hi h0 hn hx h7 h9 h4 hw hW hh hc
    rw [e88_19, if_neg (by omega)]
    exact pOk_s ⟨by rw [pHt]; omega, h7, h9, h4, fun _ _ _ => rfl, fun _ _ _ _ _ _ => rfl⟩
  | succ k ih =>
    intro i x2 c B w M hi h0 hn hx h7 h9 h4 hw hW hh hc
    have len := pHrL_len hW
    obtain ⟨⟨a1, a2, a3, a4⟩, a5⟩ := pHr_K 1 hw hW.2.1.1
    have hkc : 0 ≤ pKc c + 1 ∧ pKc c + 1 ≤ 6 := by
      unfold pKc
      by_cases q : c = 6
      · rw [if_pos q]; omega
      · rw [if_neg q]; omega
    rw [e88_19, if_pos (by omega), m64 _ _ (by rw [h4]; exact hc), p_b, h4, h9, h7]
    obtain ⟨M1, hM1⟩ : ∃ M1, M1 = p_st (p_st M 186 (p_up (M 186) 4 (pKc c + 1))) 189 (pKept B w c) := ⟨_, rfl⟩
    have g7 : M1 187 = w := by rw [hM1, p_st2 (by decide), p_st2 (by decide), h7]
    have g9 : M1 189 = pKept B w c := by rw [hM1, p_st1]
    have g6 : M1 186 = p_up (M 186) 4 (pKc c + 1) := by rw [hM1, p_st2 (by decide), p_st1]
    have gf : ∀ b, b ≠ 186 → b ≠ 189 → M1 b = M b := fun b b1 b2 => by rw [hM1, p_st2 b2, p_st2 b1]
    rw [← hM1]
    obtain ⟨pile, f, hm⟩ := m87 (d + 1) 1 M1 (by rw [g7]; exact hw) (by rw [g7]; exact ⟨LawT_law hW.1.1, LawT_law hW.1.2.1⟩) (by rw [g7]; omega) (by rw [g7]; exact hW.2.1)
    rw [g7] at hm
    rw [hm, p_b, p_w (x := i + 1) (by omega) (by omega), p_w (x := x2 + ((pHrL w).length : Int)) (by omega) (by omega)]
    refine pOk_m (ih (i + 1) (x2 + (pHrL w).length) (pKc c + 1) (pKept B w c) (pHr 1 w) _ (by omega) (by omega) hn (by omega) rfl ?_ ?_ a1 (TxW_TX a2 hW) (by omega) hkc) (fun r M' ⟨t1, t2, t3, t4, t5, t6⟩ => ?_)
    · rw [pS_o (by decide)]; exact g9
    · rw [pS_186, pFa_lo2 _ _ _ (by decide), g6, p_up1]
    · refine ⟨by rw [t1, pHt]; omega, t2, t3, t4, fun f f1 f2 => ?_, fun b b1 b2 b3 b4 b5 => ?_⟩
      · rw [t5 f f1 f2, pS_186, pFa_lo2 _ _ _ f1, g6, p_off (by omega)]
      · rw [t6 b b1 b2 b3 b4 b5, pS_o ⟨b1, b2, b4, b5⟩, gf b b1 b3]
theorem a_hours {C M : am_M} (hI : Inv C M) (n : Int) : Pair C M 195 88 [.inl n] := by
  have hR := hI.1.1
  have hw := hI.1.2.1
  have hh := hI.1.2.2.1
  have hW := hI.1.2.2.2.1
  have hX := hI.1.2.2.2.2.1
  have hB := hI.1.2.2.2.2.2
  obtain ⟨b1, b2, b3, b4⟩ := hI.2.1
  by_cases c1 : 1 ≤ n ∧ n ≤ 100
  · by_cases c2 : 9999 < M 187 0 + n
    · refine Pair_e (v := -1) hI ?_ ?_
      · rw [e195, c253, p_b, p_i0, if_pos c1, R_hr hR, p_w (x := M 187 0 + n) (by omega) (by omega), if_pos c2]
      · rw [e88, m0, p_b, p_i0, if_pos c1, p_c (by decide), p_w (x := M 187 0 + n) (by omega) (by omega), if_pos c2]
    · obtain ⟨k, hk⟩ : ∃ k : Nat, n = k := ⟨n.toNat, by omega⟩
      have hc := c195_18 991 n k 0 0 (M 0 4) (M 186 4) (M 186 4) (M 186 4) (M 189) (M 187) M (by omega) (by omega) c1.2 (by omega) hR ⟨hw, hW, hX, hh.1, by omega⟩ b1 rfl b3 b4 (by omega) (by omega) (Or.inl ⟨rfl, rfl⟩)
      have ec : am_run 1000 195 [.inr 0, .inl n] M = am_L 999 195 18 [some (.inr 0), some (.inl n), some (.inl 0), some (.inl 0)] [] M := by
        rw [e195, c253, p_b, p_i0, if_pos c1, R_hr hR, p_w (x := M 187 0 + n) (by omega) (by omega), if_neg c2]
      unfold Pair
      rw [ec]
      refine pOk_m hc (fun r M' ⟨t1, t2, t3, t4, t5, t6, t7, t8, t9, t10, t11⟩ => ?_)
      have far : ∀ b, 26 < b → (b < 105 ∨ 185 < b) → M' b = M b := fun b q1 q2 => t11 b (by omega) (by omega) (by omega) (by omega) (by omega) (by omega)
      have e6 : M' 186 = M 186 := far 186 (by omega) (by omega)
      have e7 : M' 187 = M 187 := far 187 (by omega) (by omega)
      have e9 : M' 189 = M 189 := far 189 (by omega) (by omega)
      have hm := m88_19 990 n k 0 0 (M 186 4) (M 189) (M 187) M' (by omega) (by omega) c1.2 (by omega) e7 e9 (by rw [e6]) hw hW (by omega) b2
      rw [e88, m0, p_b, p_i0, if_pos c1, p_c (by decide), e7, p_w (x := M 187 0 + n) (by omega) (by omega), if_neg c2]
      refine pOk_m hm (fun r' N ⟨s1, s2, s3, s4, s5, s6⟩ => ⟨s1.trans t1.symm, ?_⟩)
      have e0 : N 0 = M' 0 := s6 0 (by omega) (by omega) (by omega) (by omega) (by omega)
      have farN : ∀ b, 26 < b → (b < 105 ∨ 185 < b) → b ≠ 186 → b ≠ 187 → b ≠ 189 → b ≠ 195 → b ≠ 196 → N b = M b := fun b q1 q2 q3 q4 q5 q6 q7 => (s6 b q3 q4 q5 q6 q7).trans (far b q1 q2)
      refine Inv_act hI ?_ (by rw [s2]; exact t3.1) (by rw [s2]; have := t3.2.2.2; omega) (by rw [s2]; exact pTX_T2 t4) ?_ ⟨?_, ?_, ?_, ?_⟩ (fun b q1 q2 q3 => farN b q1 (by omega) (by omega) (by omega) (by omega) (by omega) (by omega)) ⟨farN 188 (by omega) (by omega) (by omega) (by omega) (by omega) (by omega) (by omega), farN 194 (by omega) (by omega) (by omega) (by omega) (by omega) (by omega) (by omega)⟩ (fun b hb => farN b (by omega) (by omega) (by omega) (by omega) (by omega) (by omega) (by omega)) (fun f f1 f2 => by rw [e0]; exact t10 f f1 f2) (fun f f1 f2 => by rw [s5 f f1 f2, e6])
      · rw [s2]
        exact WR_fr t2 (fun b _ _ => s6 b (by omega) (by omega) (by omega) (by omega) (by omega))
      · rw [s2]
        exact pBook_w hB (farN 52 (by omega) (by omega) (by omega) (by omega) (by omega) (by omega) (by omega)) (fun k _ _ => t4 k (by omega))
      · rw [e0, t5, s4]
      · rw [s4]; exact ⟨t8, t7⟩
      · rw [e0]; exact t6
      · rw [e0, s4, s3, s2]
        exact pRing_fr t9 (fun b _ _ => s6 b (by omega) (by omega) (by omega) (by omega) (by omega))
  · refine Pair_e (v := -1) hI ?_ ?_
    · rw [e195, c253, p_b, p_i0, if_neg c1]
    · rw [e88, m0, p_b, p_i0, if_neg c1]
