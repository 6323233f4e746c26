/-! PURE: the class's acts in a world: what is asked, loans, toil -/
def cT (M : am_M) (F stk : Int → Int) : am_M := p_st (p_st M 105 F) 106 stk
theorem cT_105 (M : am_M) (F stk : Int → Int) : cT M F stk 105 = F := rfl
theorem cT_106 (M : am_M) (F stk : Int → Int) : cT M F stk 106 = stk := rfl
theorem cT_o {M : am_M} {F stk : Int → Int} {b : Nat} (h : b ≠ 105 ∧ b ≠ 106) : cT M F stk b = M b := by
  unfold cT
  rw [p_st2 h.2, p_st2 h.1]
theorem cT_st105 (M : am_M) (F stk G : Int → Int) : p_st (cT M F stk) 105 G = cT M G stk := by
  unfold cT
  rw [p_st4 (by decide), p_st3]
theorem cT_st106 (M : am_M) (F stk G : Int → Int) : p_st (cT M F stk) 106 G = cT M F G := by
  unfold cT
  rw [p_st3]
theorem cT_id (M : am_M) : cT M (M 105) (M 106) = M := by
  unfold cT
  rw [p_st5, p_st5]
theorem cT_F (M : am_M) (F : Int → Int) : p_st M 105 F = cT M F (M 106) := by
  rw [← cT_st105 M (M 105), cT_id]
theorem cT_cT (M : am_M) (F stk F' stk' : Int → Int) : cT (cT M F stk) F' stk' = cT M F' stk' := by
  rw [cT, cT_st105, cT_st106]
/-- what a law's reckoning and a world's run may touch -/
def CA (o : Nat) (M M' : am_M) : Prop := ∀ b, (b < o ∨ o + 12 < b) → b ≠ 105 → b ≠ 106 → M' b = M b
theorem CA_refl (o : Nat) (M : am_M) : CA o M M := fun _ _ _ _ => rfl
theorem CA_trans {o : Nat} {A B C : am_M} (h1 : CA o A B) (h2 : CA o B C) : CA o A C := fun b hb h5 h6 => (h2 b hb h5 h6).trans (h1 b hb h5 h6)
theorem CW_CA {o : Nat} {A B : am_M} (h : CW o A B) : CA o A B := fun b hb _ _ => h b hb
theorem CA_cT (o : Nat) (M : am_M) (F stk : Int → Int) : CA o M (cT M F stk) := fun b _ h5 h6 => cT_o ⟨h5, h6⟩
theorem WR_cT {M : am_M} {o : Nat} {w : Int → Int} (ho : IsW o) (h : WR M o w) (F stk : Int → Int) : WR (cT M F stk) o w := by
  have := w_far ho
  exact WR_fr h (fun b h0 h1 => cT_o (by omega))
/-- the class's texts -/
def TxR (M : am_M) (x : Nat) (w : Int → Int) : Prop := (LawR M (x + 6) w 0 ∧ LawR M (x + 12) w 1 ∧ LawR M (x + 18) w 2) ∧ (M (x + 2) 0 = w 286 ∧ ∀ i j, 0 ≤ i → i < w 286 → 0 ≤ j → j < 5 → M (x + 3) (i * 5 + j) = w (292 + 5 * i + j)) ∧ (M (x + 4) 0 = w 287 ∧ ∀ i j, 0 ≤ i → i < w 287 → 0 ≤ j → j < 4 → M (x + 5) (i * 5 + j) = w (372 + 4 * i + j))
def TxW (w : Int → Int) : Prop := (LawT w 0 ∧ LawT w 1 ∧ LawT w 2) ∧ (0 ≤ w 286 ∧ w 286 ≤ 16) ∧ (0 ≤ w 287 ∧ w 287 ≤ 8) ∧ ∀ i, 0 ≤ i → i < w 287 → (0 ≤ w (372 + 4 * i) ∧ w (372 + 4 * i) ≤ 3) ∧ (w (372 + 4 * i + 3) = 0 ∨ w (372 + 4 * i + 3) = 1)
theorem LawR_fr {M M' : am_M} {a : Nat} {w : Int → Int} {k : Int} (h : LawR M a w k) (hf : ∀ b, a ≤ b → b ≤ a + 5 → M' b = M b) : LawR M' a w k := by
  obtain ⟨h1, h2⟩ := h
  refine ⟨by rw [hf a (by omega) (by omega)]; exact h1, fun i h0 hi => ?_⟩
  rw [hf (a + 1) (by omega) (by omega), hf (a + 2) (by omega) (by omega), hf (a + 3) (by omega) (by omega), hf (a + 4) (by omega) (by omega), hf (a + 5) (by omega) (by omega)]
  exact h2 i h0 hi
theorem TxR_fr {M M' : am_M} {x : Nat} {w : Int → Int} (h : TxR M x w) (hf : ∀ b, x ≤ b → b ≤ x + 23 → M' b = M b) : TxR M' x w := by
  obtain ⟨⟨l0, l1, l2⟩, ⟨b1, b2⟩, w1, w2⟩ := h
  refine ⟨⟨LawR_fr l0 (fun b _ _ => hf b (by omega) (by omega)), LawR_fr l1 (fun b _ _ => hf b (by omega) (by omega)), LawR_fr l2 (fun b _ _ => hf b (by omega) (by omega))⟩, ⟨?_, ?_⟩, ?_, ?_⟩
  · rw [hf _ (by omega) (by omega)]; exact b1
  · intro i j k0 k1 k2 k3
    rw [hf _ (by omega) (by omega)]; exact b2 i j k0 k1 k2 k3
  · rw [hf _ (by omega) (by omega)]; exact w1
  · intro i j k0 k1 k2 k3
    rw [hf _ (by omega) (by omega)]; exact w2 i j k0 k1 k2 k3
theorem LawT_TX {w w' : Int → Int} {k : Int} (h : pTX w w') (hk : 0 ≤ k) (hL : LawT w k) : LawT w' k := by
  obtain ⟨h1, h2⟩ := hL
  have e : w' (288 + k) = w (288 + k) := h _ (by omega)
  refine ⟨by rw [e]; exact h1, fun i h0 hi => ?_⟩
  rw [e] at hi
  obtain ⟨b1, b2, b3, b4⟩ := h2 i h0 hi
  rw [pB_TX h hk h0 (by omega), pE_TX h hk h0 (by omega), show pFrom w' k i = pFrom w k i from h _ (by omega), show pMid w' k i = pMid w k i from h _ (by omega), show pTo w' k i = pTo w k i from h _ (by omega), show pSay w' k i = pSay w k i from h _ (by omega)]
  exact ⟨b1, b2, b3, b4⟩
theorem LawR_TX {M : am_M} {a : Nat} {w w' : Int → Int} {k : Int} (h : pTX w w') (hk : 0 ≤ k) (hL : LawT w k) (hR : LawR M a w k) : LawR M a w' k := by
  have e : w' (288 + k) = w (288 + k) := h _ (by omega)
  refine ⟨by rw [e]; exact hR.1, fun i h0 hi => ?_⟩
  rw [e] at hi
  obtain ⟨b1, -, -, -⟩ := hL.2 i h0 hi
  rw [pB_TX h hk h0 (by omega), pE_TX h hk h0 (by omega), show pSay w' k i = pSay w k i from h _ (by omega)]
  exact hR.2 i h0 hi
theorem TxW_TX {w w' : Int → Int} (h : pTX w w') (hW : TxW w) : TxW w' := by
  obtain ⟨⟨l0, l1, l2⟩, b, c, e⟩ := hW
  refine ⟨⟨LawT_TX h (by omega) l0, LawT_TX h (by omega) l1, LawT_TX h (by omega) l2⟩, by rw [h _ (by omega)]; exact b, by rw [h _ (by omega)]; exact c, fun i h0 h1 => ?_⟩
  rw [h _ (by omega)] at h1
  rw [h _ (by omega), h _ (by omega)]
  exact e i h0 h1
theorem TxR_TX {M : am_M} {x : Nat} {w w' : Int → Int} (h : pTX w w') (hW : TxW w) (hR : TxR M x w) : TxR M x w' := by
  obtain ⟨⟨l0, l1, l2⟩, b, c, e⟩ := hW
  obtain ⟨⟨r0, r1, r2⟩, ⟨b1, b2⟩, w1, w2⟩ := hR
  refine ⟨⟨LawR_TX h (by omega) l0 r0, LawR_TX h (by omega) l1 r1, LawR_TX h (by omega) l2 r2⟩, ⟨?_, ?_⟩, ?_, ?_⟩
  · rw [h _ (by omega)]; exact b1
  · intro i j k0 k1 k2 k3
    rw [h _ (by omega)] at k1
    rw [h _ (by omega)]; exact b2 i j k0 k1 k2 k3
  · rw [h _ (by omega)]; exact w1
  · intro i j k0 k1 k2 k3
    rw [h _ (by omega)] at k1
    rw [h _ (by omega)]; exact w2 i j k0 k1 k2 k3
/-- what askOfHand lays -/
def cHF (w : Int → Int) (h p : Int) (f : Int → Int) : Int → Int := p_up (p_up (p_up (p_up (p_up (p_up (p_up f 0 (1 - h % 2)) 1 (pBest w h)) 2 (ph w h 4)) 3 (ph w h 5)) 11 (ph w h 7)) 8 (if h / 2 = p then 1 else 0)) 7 (w (277 + p))
theorem c251 (d : Nat) {o : Nat} (ho : IsW o) {M : am_M} {w : Int → Int} (hR : WR M o w) {h p : Int} (hh : 0 ≤ h ∧ h < 16) (hp : 0 ≤ p ∧ p < 8) : am_run (d + 2) 251 [.inr 0, .inr o, .inl h, .inl p] M = some (0, cT M (cHF w h p (M 105)) (M 106)) := by
  have hfar := w_far ho
  have far := hfar
  have R : ∀ F, WR (p_st M 105 F) o w := fun F => by rw [cT_F]; exact WR_cT ho hR F _
  have e8 := R_wear hR hh.1 hh.2
  have e9 := R_scars hR hh.1 hh.2
  have e11 := R_held hR hh.1 hh.2
  have e2 := R_child hR hp.1 hp.2
  rw [e251]
  simp only [w_c ho, w_r5 ho, w_r6 ho, w_r7 ho, w_r8 ho, w_r9 ho, w_r10 ho, w_r11 ho, w_r12 ho, w_r13 ho, w_r14 ho, w_r15 ho, w_r16 ho, w_k1 ho, w_k2 ho, w_k3 ho, w_k4 ho, w_k5 ho, w_k6 ho, w_k7 ho, w_k8 ho, w_k9 ho, w_k10 ho, w_k11 ho, w_k12 ho, w_l1 ho, w_l2 ho, w_l3 ho, w_l4 ho, w_l5 ho, w_l6 ho, w_l7 ho, w_l8 ho, w_l9 ho, w_l10 ho, w_l11 ho, w_l12 ho, w_B5, w_B9, cond_true, Bool.true_or, p_and1 hh.1 (show h < 64 by omega), p_shr1 hh.1 (show h < 64 by omega)]
  rw [p_c (by decide), p_upd, c141 d ho (R _) hh, p_b]
  simp (disch := omega) only [p_c, p_upd, p_st1, p_st2, p_st3, e8, e9, e11, e2, p_w]
  rw [← cT_F]
  unfold cHF
  by_cases q : h / 2 = p
  · rw [if_pos q, if_pos q]
  · rw [if_neg q, if_neg q]
theorem pAskd_loan (M : am_M) (w : Int → Int) (h to n price : Int) (g : Int → Int) (hM : M 105 = p_up (p_up (p_up (p_up (cHF w h to g) 4 n) 5 price) 6 (pp w to 0)) 9 (pLoans w h)) : pAskd M 0 (pMayF w h to n price (fun _ => 0)) := by
  intro s hs
  rw [hM]
  simp only [pA, if_true, List.mem_cons, List.not_mem_nil, or_false] at hs
  rcases hs with rfl | rfl | rfl | rfl | rfl | rfl | rfl | rfl | rfl | rfl <;> simp [pMayF, pHF, cHF, p_up]
theorem c217 (d : Nat) {o : Nat} (ho : IsW o) {M : am_M} {w : Int → Int} (hR : WR M o w) (hW : TxW w) (hX : TxR M 28 w) (hn : 0 ≤ w 1 ∧ w 1 ≤ 16) {h to : Int} (n price : Int) (hh : 0 ≤ h ∧ h < 16) (hp : 0 ≤ to ∧ to < 8) : ∃ F stk, am_run (d + 3) 217 [.inr 0, .inr o, .inl h, .inl to, .inl n, .inl price] M = some (if pMay w h to n price = true then 1 else 0, cT M F stk) := by
  have far := w_far ho
  have e1 := R_coin hR hp.1 hp.2
  have R : ∀ F stk, WR (cT M F stk) o w := fun F stk => WR_cT ho hR F stk
  generalize hF : p_up (p_up (p_up (p_up (cHF w h to (M 105)) 4 n) 5 price) 6 (pp w to 0)) 9 (pLoans w h) = F
  obtain ⟨r, stk, h1, h2⟩ := c154 d (a := 34) (by unfold IsL; omega) (M := cT M F (M 106)) (w := w) (f := pMayF w h to n price (fun _ => 0)) (k := 0) (by omega) hW.1.1 (LawR_fr hX.1.1 (fun b _ _ => cT_o (by omega))) (pAskd_loan _ w h to n price (M 105) (by rw [cT_105, ← hF]))
  refine ⟨F, stk, ?_⟩
  rw [cT_st106] at h1
  rw [e217, c251 _ ho hR hh hp, p_b]
  simp only [w_c ho, w_r5 ho, w_r6 ho, w_r7 ho, w_r8 ho, w_r9 ho, w_r10 ho, w_r11 ho, w_r12 ho, w_r13 ho, w_r14 ho, w_r15 ho, w_r16 ho, w_k1 ho, w_k2 ho, w_k3 ho, w_k4 ho, w_k5 ho, w_k6 ho, w_k7 ho, w_k8 ho, w_k9 ho, w_k10 ho, w_k11 ho, w_k12 ho, w_l1 ho, w_l2 ho, w_l3 ho, w_l4 ho, w_l5 ho, w_l6 ho, w_l7 ho, w_l8 ho, w_l9 ho, w_l10 ho, w_l11 ho, w_l12 ho, w_B5, w_B9, cond_true, Bool.true_or]
  rw [p_c (by decide), p_c (by decide), p_c (by omega), p_c (by decide)]
  simp only [p_upd, cT_105, cT_st105]
  rw [cT_o (show o + 1 ≠ 105 ∧ o + 1 ≠ 106 by omega), e1, c144 _ ho (R _ _) hn, p_b, p_c (by decide), p_c (by decide)]
  simp only [cT_105, cT_st105]
  rw [hF, h1, p_b]
  rcases h2 with ⟨rfl, h2⟩ | ⟨s, hs, rfl, h2⟩
  · have : pMay w h to n price = true := decide_eq_true (h2 20)
    rw [if_pos rfl, if_pos this]
  · have hs2 := hs.1 rfl
    have h3 : pSays w (pMayF w h to n price (fun _ => 0)) 0 20 (w 288).toNat 0 = s := h2 20
    have ev : pVb s = s - 2 := if_pos (by omega)
    rw [ev, if_neg (by omega)]
    by_cases s20 : s = 20
    · have : pMay w h to n price = true := decide_eq_true (h3.trans s20)
      rw [if_pos (by omega), if_pos this]
    · have : ¬ pMay w h to n price = true := fun q => s20 (h3.symm.trans (of_decide_eq_true q))
      rw [if_neg (by omega), if_neg this]
theorem c218 (d : Nat) {o : Nat} (ho : IsW o) {M : am_M} {w : Int → Int} (hR : WR M o w) (hw : WF w) (hW : TxW w) (hX : TxR M 28 w) (h0 : 0 ≤ w 0 ∧ w 0 ≤ 20000) (h to n price : Int) : ∃ F stk, am_run (d + 4) 218 [.inr 0, .inr o, .inl h, .inl to, .inl n, .inl price] M = some (if pCan w h to n price = true then 1 else 0, cT M F stk) := by
  obtain ⟨n1, n2, n3⟩ := hw.1
  have no : ∀ P : Prop, ¬ P → (pCan w h to n price = true → P) → ∃ F stk, (some (0, M) : am_R) = some (if pCan w h to n price = true then 1 else 0, cT M F stk) := by
    intro P h1 h2
    refine ⟨M 105, M 106, ?_⟩
    rw [if_neg (fun q => h1 (h2 q)), cT_id]
  rw [e218, c135 _ ho hR n2, p_b, p_i0]
  by_cases h1 : 0 ≤ h ∧ h ≤ 2 * w 276 - 1
  · rw [if_pos h1, c134 _ ho hR, p_b, p_i0]
    by_cases h2 : 0 ≤ to ∧ to ≤ w 276 - 1
    · have ea := R_at hR h1.1 (show h < 16 by omega)
      have ec := R_coin hR h2.1 (show to < 8 by omega)
      rw [if_pos h2]
      simp only [w_c ho, w_r5 ho, w_r6 ho, w_r7 ho, w_r8 ho, w_r9 ho, w_r10 ho, w_r11 ho, w_r12 ho, w_r13 ho, w_r14 ho, w_r15 ho, w_r16 ho, w_k1 ho, w_k2 ho, w_k3 ho, w_k4 ho, w_k5 ho, w_k6 ho, w_k7 ho, w_k8 ho, w_k9 ho, w_k10 ho, w_k11 ho, w_k12 ho, w_l1 ho, w_l2 ho, w_l3 ho, w_l4 ho, w_l5 ho, w_l6 ho, w_l7 ho, w_l8 ho, w_l9 ho, w_l10 ho, w_l11 ho, w_l12 ho, w_B5, w_B9, cond_true, Bool.true_or]
      rw [p_c (by omega), ea]
      by_cases h5 : ph w h 8 = -1
      · rw [if_pos h5]
        exact no (¬ ph w h 8 = -1) (fun q => q h5) (fun q => (of_decide_eq_true q).2.2.2.2.1)
      · rw [if_neg h5, p_c (by omega)]
        by_cases h6 : ph w h 8 = to
        · rw [if_pos h6]
          exact no (¬ ph w h 8 = to) (fun q => q h6) (fun q => (of_decide_eq_true q).2.2.2.2.2.1)
        · rw [if_neg h6, c253, p_b, p_i0]
          by_cases h3a : 1 ≤ n ∧ n ≤ 99
          · rw [if_pos h3a, c253, p_b, p_i0]
            by_cases h3b : 0 ≤ price ∧ price ≤ 99
            · have hm := p_mul (a := n) (b := price) (by omega) (by omega)
              rw [if_pos h3b, R_ln hR]
              by_cases h4 : w 1 = 16
              · rw [if_neg (by omega)]
                exact no (¬ w 1 = 16) (fun q => q h4) (fun q => (of_decide_eq_true q).2.2.2.1)
              · rw [if_pos (by omega), p_c (by omega), ec, p_w (x := n * price) (by omega) (by omega)]
                by_cases h8 : pp w to 0 < n * price
                · rw [if_pos h8]
                  exact no (¬ pp w to 0 < n * price) (fun q => q h8) (fun q => (of_decide_eq_true q).2.2.2.2.2.2.2.1)
                · rw [if_neg h8, c143 _ ho hR n1, p_b]
                  obtain ⟨F, stk, hmay⟩ := c217 d ho hR hW hX n1 n price (h := h) (to := to) (by omega) (by omega)
                  have fin : (pLatest w h = -1 ∨ ¬ pl w (pLatest w h) 3 < w 0 + n) → ∃ F stk, am_bnd (am_run (d + 3) 217 [.inr 0, .inr o, .inl h, .inl to, .inl n, .inl price] M) (fun r6 M6 => am_chk ((r6 : Int) = 0 ∨ r6 = 1) (some (r6, M6))) = some (if pCan w h to n price = true then 1 else 0, cT M F stk) := by
                    intro h7
                    refine ⟨F, stk, ?_⟩
                    rw [hmay, p_b]
                    by_cases h9 : pMay w h to n price = true
                    · have : pCan w h to n price = true := decide_eq_true ⟨h1, h2, ⟨h3a, h3b⟩, h4, h5, h6, h7, h8, h9⟩
                      rw [if_pos h9, if_pos this, p_c (Or.inr rfl)]
                    · rw [if_neg h9, if_neg (fun q => h9 (of_decide_eq_true q).2.2.2.2.2.2.2.2), p_c (Or.inl rfl)]
                  rcases pLatest_range (w := w) (h := h) n1.1 with h7 | ⟨g1, g2, -⟩
                  · rw [if_pos h7]
                    exact fin (Or.inl h7)
                  · rw [if_neg (by omega), c142 _ ho hR (by omega) (by omega), p_b, R_hr hR, p_w (x := w 0 + n) (by omega) (by omega)]
                    by_cases h10 : pl w (pLatest w h) 3 < w 0 + n
                    · rw [if_pos h10]
                      exact no (pLatest w h = -1 ∨ ¬ pl w (pLatest w h) 3 < w 0 + n) (fun q => q.elim (fun q => by omega) (fun q => q h10)) (fun q => (of_decide_eq_true q).2.2.2.2.2.2.1)
                    · rw [if_neg h10]
                      exact fin (Or.inr h10)
            · rw [if_neg h3b]
              exact no _ h3b (fun q => (of_decide_eq_true q).2.2.1.2)
          · rw [if_neg h3a]
            exact no _ h3a (fun q => (of_decide_eq_true q).2.2.1.1)
    · rw [if_neg h2]
      exact no _ h2 (fun q => (of_decide_eq_true q).2.1)
  · rw [if_neg h1]
    exact no _ h1 (fun q => (of_decide_eq_true q).1)
