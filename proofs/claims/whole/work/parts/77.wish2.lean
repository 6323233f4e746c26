/-! PURE: both ways find the same -/
theorem pW3_keep {w : Int → Int} {p i : Int} {m : Nat} : ∀ (k : Nat) (a : Int) (s : Int × Int × Int), 0 ≤ a → 0 ≤ s.1 → s.1 ≤ 1 → pW3 w p i m k a s = s := by
  intro k
  induction k with
  | zero => intro _ _ _ _ _; rfl
  | succ k ih =>
    intro a s h0 h1 h2
    rw [pW3, if_neg (show ¬ a < 0 by omega)]
    have e : pW2 w p i a m (-1) s = s := pW2_keep m (-1) s (by omega) (fun j _ => by
      rw [if_neg (show ¬ a = -1 by omega)]
      by_cases q : -1 + 2 * (j : Int) = -1
      · rw [if_pos q]; omega
      · rw [if_neg q]; omega)
    rw [e]
    exact ih (a + 2) s (by omega) h1 h2
theorem pFind_ne {P : Int → Bool} {s i : Int} {k : Nat} (h0 : 0 ≤ i) (hs : 0 ≤ s) : p_find P s k i = -1 ∨ i ≤ p_find P s k i := by
  rcases p_find_range P s k i with q | ⟨j, h1, h2, -⟩
  · exact Or.inl q
  · refine Or.inr ?_
    rw [h2]
    have : 0 ≤ s * (j : Int) := Int.mul_nonneg hs (by omega)
    omega
/-- one left hand -/
theorem pW_left {w : Int → Int} (hw : WF w) (hW : TxW w) {p i a : Int} (hi : 0 ≤ i ∧ i < w 287) (ha : 0 ≤ a ∧ a % 2 = 0) (s : Int × Int × Int) (hs : s.1 = -1 ∨ s.1 = 2) : pW2 w p i a ((w 276).toNat + 1) (-1) s = if pO1 w p i 0 a = true then (1, a, -1) else if s.1 = -1 then (if pTwo w p i a = -1 then s else (2, a, pTwo w p i a)) else s := by
  rw [pW2]
  unfold pW1
  rw [pBy_left hw hW hi ha, if_neg (show ¬ a = -1 by omega), if_pos (show (-1 : Int) = -1 from rfl), show (1 : Int) + 0 = 1 from rfl, show (-1 : Int) + 2 = 1 from rfl]
  by_cases q : pO1 w p i 0 a = true
  · rw [if_pos ⟨by omega, q⟩, if_pos q]
    refine pW2_keep _ 1 _ (show (1 : Int) ≠ -1 by decide) (fun j _ => ?_)
    rw [if_neg (show ¬ a = -1 by omega), if_neg (show ¬ (1 : Int) + 2 * (j : Int) = -1 by omega)]
    dsimp only
    omega
  · rw [if_neg (fun z => q z.2), if_neg q]
    rcases hs with h | h
    · rw [if_pos h, pW2_first _ 1 s (by omega) h, if_neg (show ¬ a = -1 by omega), show (1 : Int) + 1 = 2 from rfl]
      have e : p_find (fun b => pBy w p i a b) 2 (w 276).toNat 1 = pTwo w p i a := by
        unfold pTwo
        by_cases c : pCan w a p 1 0 = true
        · rw [if_pos c]
          refine p_find_cg 2 _ 1 (fun j hj => ?_)
          rw [pBy_two hw hW hi ha (by omega), c, Bool.true_and]
        · rw [if_neg c]
          have z : p_find (fun b => pBy w p i a b) 2 (w 276).toNat 1 = p_find (fun _ => false) 2 (w 276).toNat 1 := by
            refine p_find_cg 2 _ 1 (fun j hj => ?_)
            rw [pBy_two hw hW hi ha (by omega)]
            simp [c]
          rw [z]
          exact p_find_all 2 (fun _ => rfl) _ _
      rw [e]
    · rw [if_neg (by omega)]
      refine pW2_keep _ 1 s (by omega) (fun j _ => ?_)
      rw [if_neg (show ¬ a = -1 by omega), if_neg (show ¬ (1 : Int) + 2 * (j : Int) = -1 by omega), h]
      omega
theorem pW3_two {w : Int → Int} (hw : WF w) (hW : TxW w) {p i : Int} (hi : 0 ≤ i ∧ i < w 287) : ∀ (k : Nat) (a : Int) (s : Int × Int × Int), 0 ≤ a → a % 2 = 0 → s.1 = 2 → pW3 w p i ((w 276).toNat + 1) k a s = if p_find (pO1 w p i 0) 2 k a = -1 then s else (1, p_find (pO1 w p i 0) 2 k a, -1) := by
  intro k
  induction k with
  | zero => intro a s _ _ _; rfl
  | succ k ih =>
    intro a s h0 h1 hs
    rw [pW3, if_neg (show ¬ a < 0 by omega), pW_left hw hW hi ⟨h0, h1⟩ s (Or.inr hs), p_find]
    by_cases q : pO1 w p i 0 a = true
    · rw [if_pos q, if_pos q, if_neg (show ¬ a = -1 by omega)]
      exact pW3_keep k (a + 2) _ (by omega) (show (0 : Int) ≤ 1 by decide) (show (1 : Int) ≤ 1 by decide)
    · rw [if_neg q, if_neg q, if_neg (by omega)]
      exact ih (a + 2) s (by omega) (by omega) hs
theorem pW3_none {w : Int → Int} (hw : WF w) (hW : TxW w) {p i : Int} (hi : 0 ≤ i ∧ i < w 287) : ∀ (k : Nat) (a : Int), 0 ≤ a → a % 2 = 0 → pW3 w p i ((w 276).toNat + 1) k a (-1, 0, 0) = if p_find (pO1 w p i 0) 2 k a ≠ -1 then (1, p_find (pO1 w p i 0) 2 k a, -1) else pTws w p i k a := by
  intro k
  induction k with
  | zero => intro a _ _; rfl
  | succ k ih =>
    intro a h0 h1
    rw [pW3, if_neg (show ¬ a < 0 by omega), pW_left hw hW hi ⟨h0, h1⟩ _ (Or.inl rfl), p_find, pTws]
    by_cases q : pO1 w p i 0 a = true
    · rw [if_pos q, if_pos q, if_pos (show a ≠ -1 by omega)]
      exact pW3_keep k (a + 2) _ (by omega) (show (0 : Int) ≤ 1 by decide) (show (1 : Int) ≤ 1 by decide)
    · rw [if_neg q, if_neg q, if_pos rfl]
      by_cases c : pTwo w p i a = -1
      · rw [if_pos c, if_pos c]
        exact ih (a + 2) (by omega) (by omega)
      · rw [if_neg c, if_neg c, pW3_two hw hW hi k (a + 2) _ (by omega) (by omega) rfl]
        by_cases z : p_find (pO1 w p i 0) 2 k (a + 2) = -1
        · rw [if_pos z, if_neg (fun q => q z)]
        · rw [if_neg z, if_pos z]
theorem pWs_same {w : Int → Int} (hw : WF w) (hW : TxW w) {p i : Int} (hi : 0 ≤ i ∧ i < w 287) : pW3 w p i ((w 276).toNat + 1) ((w 276).toNat + 1) (-2) (-1, 0, 0) = pWs w p i := by
  have eb : pBy w p i (-1) (-1) = pDo w p i := by
    unfold pBy
    rfl
  rw [pW3, if_pos (show (-2 : Int) < 0 by omega), pW2]
  unfold pW1 pWs
  rw [eb, show (-2 : Int) + 2 = 0 from rfl, show (-1 : Int) + 2 = 1 from rfl]
  by_cases q : pDo w p i = true
  · rw [if_pos q, if_pos ⟨Or.inl rfl, q⟩]
    have e : pW2 w p i (-1) (w 276).toNat 1 ((if (-1 : Int) = -1 then (0 : Int) else 1) + (if (-1 : Int) = -1 then 0 else 1), -1, -1) = (0, -1, -1) := by
      refine pW2_keep _ 1 _ (by decide) (fun j _ => ?_)
      rw [if_pos rfl, if_neg (show ¬ (1 : Int) + 2 * (j : Int) = -1 by omega)]
      dsimp only
      omega
    rw [e]
    exact pW3_keep _ 0 _ (by omega) (by decide) (by decide)
  · rw [if_neg q, if_neg (fun z => q z.2), pW2_first _ 1 _ (by omega) rfl]
    have er : p_find (fun b => pBy w p i (-1) b) 2 (w 276).toNat 1 = p_find (pO1 w p i 1) 2 (w 276).toNat 1 := p_find_cg 2 _ 1 (fun j hj => pBy_right hw hW hi (by omega))
    rw [er]
    by_cases c : p_find (pO1 w p i 1) 2 (w 276).toNat 1 = -1
    · rw [if_pos c, if_neg (fun z => z c)]
      exact pW3_none hw hW hi _ 0 (by omega) (by omega)
    · rw [if_neg c, if_pos c, if_pos rfl]
      exact pW3_keep _ 0 _ (by omega) (show (0 : Int) ≤ 0 + 1 by decide) (show (0 : Int) + 1 ≤ 1 by decide)
/-! the class -/
theorem c231 (d : Nat) {M0 : am_M} {w : Int → Int} (hR0 : WR M0 1 w) (hw : WF w) (hW : TxW w) (hX : TxR M0 28 w) (h0 : 0 ≤ w 0 ∧ w 0 ≤ 20000) {p i s : Int} (hp : 0 ≤ p ∧ p < w 276) (hi : 0 ≤ i ∧ i < w 287) (hs : 0 ≤ s ∧ s ≤ 1) : ∃ F stk, am_run (d + 6) 231 [.inr 0, .inl p, .inl i, .inl s] M0 = some (p_find (pO1 w p i s) 2 (w 276).toNat s, cT M0 F stk) := by
  have n2 := hw.1.2.1
  have eo : M0 6 (2 * p + (1 - s)) = pOn w p (1 - s) := R_on hR0 hp.1 hp.2 (by omega) (by omega)
  have lp : ∀ (k : Nat) (h : Int) (F stk : Int → Int), h = 2 * w 276 + s - 2 * k → s ≤ h → ∃ F' stk', am_L (d + 5) 231 14 [some (.inr 0), some (.inl p), some (.inl i), some (.inl s), some (.inl (pOn w p (1 - s))), some (.inl h)] [] (cT M0 F stk) = some (p_find (pO1 w p i s) 2 k h, cT M0 F' stk') := by
    intro k
    induction k with
    | zero =>
      intro h F stk hh h1
      refine ⟨F, stk, ?_⟩
      have s0 : M0 1 2 = w 276 := R_n hR0
      rw [e231_14, cT_o (b := 1) (by omega), s0, p_w (by omega) (by omega), if_neg (by omega)]
      rfl
    | succ k ih =>
      intro h F stk hh h1
      have s0 : M0 1 2 = w 276 := R_n hR0
      rw [e231_14, cT_o (b := 1) (by omega), s0, p_w (x := 2 * w 276) (by omega) (by omega), if_pos (by omega), c223 _ (WR_cT ho1 hR0 F stk) n2 hW (TxR_CA ho1 hX (CA_cT 1 M0 F stk)) hi, p_b, p_i0, p_w (x := h + 2) (by omega) (by omega), p_find]
      by_cases q : pSuf w i h (pOn w p (1 - s)) = true
      · obtain ⟨F2, stk2, hr⟩ := c218 (d + 1) ho1 (WR_cT ho1 hR0 F stk) hw hW (TxR_CA ho1 hX (CA_cT 1 M0 F stk)) h0 h p 1 0
        rw [cT_cT] at hr
        rw [if_pos q, hr, p_b, p_i0]
        by_cases c : pCan w h p 1 0 = true
        · rw [if_pos c, if_pos (show pO1 w p i s h = true by simp [q, c])]
          exact ⟨_, _, rfl⟩
        · rw [if_neg c, if_neg (show ¬ pO1 w p i s h = true by simp [c])]
          exact ih (h + 2) F2 stk2 (by omega) (by omega)
      · rw [if_neg q, if_neg (show ¬ pO1 w p i s h = true by simp [q])]
        exact ih (h + 2) F stk (by omega) (by omega)
  obtain ⟨F, stk, hr⟩ := lp (w 276).toNat s (M0 105) (M0 106) (by omega) (by omega)
  rw [cT_id] at hr
  refine ⟨F, stk, ?_⟩
  rw [e231, p_w (x := 2 * p) (by omega) (by omega), p_w (x := 2 * p + 1) (by omega) (by omega), p_w (x := 2 * p + 1 - s) (by omega) (by omega), p_c (by omega), show 2 * p + 1 - s = 2 * p + (1 - s) from by omega, eo]
  exact hr
theorem c232 (d : Nat) {C M M0 : am_M} (hI : Inv C M) (hC : CQ M M0) {p i a : Int} (hp : 0 ≤ p ∧ p < M 187 276) (hi : 0 ≤ i ∧ i < M 187 287) (ha : 0 ≤ a ∧ a < 2 * M 187 276 ∧ a % 2 = 0) : pOk (am_run (d + 6) 232 [.inr 0, .inl p, .inl i, .inl a] M0) (fun r M' => r = pTwo (M 187) p i a ∧ CQ M M') := by
  have hw := hI.1.2.1
  have hh := hI.1.2.2.1
  have hW := hI.1.2.2.2.1
  have n2 := hw.1.2.1
  have fr : ∀ M', CQ M M' → WR M' 1 (M 187) ∧ TxR M' 28 (M 187) := fun M' hF => ⟨WR_fr hI.1.1 (fun b _ _ => hF b (by omega) (by omega) (by omega) (by omega)), TxR_fr hI.1.2.2.2.2.1 (fun b _ _ => hF b (by omega) (by omega) (by omega) (by omega))⟩
  obtain ⟨f1, f2⟩ := fr M0 hC
  obtain ⟨F, stk, hr⟩ := c218 (d + 1) ho1 f1 hw hW f2 (by omega) a p 1 0
  unfold pTwo
  rw [e232, hr, p_b, p_i0]
  by_cases c : pCan (M 187) a p 1 0 = true
  · have ok := pCan_ok c
    have w1 := pLends_WF hw ok
    have tx := pLends_TX hw ok
    have k0 := pLends_hi hw ok (k := 0) (by omega)
    have C1 := CQ_trans hC (cT_CQ M0 F stk)
    rw [if_pos c, if_pos c]
    refine pOk_b (c133 _ ho14 ho1 (by decide) n2.2 (fr _ C1).1) (fun _ M2 ⟨_, r2, r3⟩ => ?_)
    have C2 : CQ M M2 := CQ_trans C1 (fun b hb _ _ _ => r3 b (by omega))
    refine pOk_b (c147 _ ho14 r2 hw (by omega) ok) (fun _ M3 ⟨_, q2, q3⟩ => ?_)
    have C3 : CQ M M3 := CQ_trans C2 (CA_CQ (CW_CA q3))
    have lp : ∀ (k : Nat) (b : Int) (M' : am_M), b = 2 * M 187 276 + 1 - 2 * k → 1 ≤ b → WR M' 14 (pLends (M 187) a p 1 0) → CQ M M' → pOk (am_L (d + 5) 232 26 [some (.inr 0), some (.inl p), some (.inl i), some (.inl a), some (.inl b)] [] M') (fun r M' => r = p_find (pT2 (M 187) p i a) 2 k b ∧ CQ M M') := by
      intro k
      induction k with
      | zero =>
        intro b M' hb h1 hR hC'
        have s0 : M' 1 2 = M 187 276 := R_n (fr M' hC').1
        rw [e232_26, s0, p_w (by omega) (by omega), if_neg (by omega)]
        exact pOk_s ⟨rfl, hC'⟩
      | succ k ih =>
        intro b M' hb h1 hR hC'
        obtain ⟨g1, g2⟩ := fr M' hC'
        have s0 : M' 1 2 = M 187 276 := R_n g1
        rw [e232_26, s0, p_w (x := 2 * M 187 276) (by omega) (by omega), if_pos (by omega), c223 _ g1 n2 hW g2 hi, p_b, p_i0, p_w (x := b + 2) (by omega) (by omega), p_find]
        by_cases q : pSuf (M 187) i a b = true
        · obtain ⟨F2, stk2, hr2⟩ := c218 (d + 1) ho14 hR w1 (TxW_TX tx hW) (TxR_TX tx hW g2) (by omega) b p 1 0
          rw [if_pos q, hr2, p_b, p_i0]
          by_cases c2 : pCan (pLends (M 187) a p 1 0) b p 1 0 = true
          · rw [if_pos c2, if_pos (show pT2 (M 187) p i a b = true by simp [q, c2])]
            exact pOk_s ⟨rfl, CQ_trans hC' (cT_CQ _ _ _)⟩
          · rw [if_neg c2, if_neg (show ¬ pT2 (M 187) p i a b = true by simp [c2])]
            exact ih (b + 2) _ (by omega) (by omega) (WR_cT ho14 hR _ _) (CQ_trans hC' (cT_CQ _ _ _))
        · rw [if_neg q, if_neg (show ¬ pT2 (M 187) p i a b = true by simp [q])]
          exact ih (b + 2) M' (by omega) (by omega) hR hC'
    exact lp (M 187 276).toNat 1 M3 (by omega) (by omega) q2 C3
  · rw [if_neg c, if_neg c]
    exact pOk_s ⟨rfl, CQ_trans hC (cT_CQ _ _ _)⟩
def pWv (s : Int × Int × Int) (a : Int) : Int := if s.1 = -1 then -2 else if a = 0 then s.1 else if a = 1 then s.2.1 else s.2.2
theorem pWv_n {s : Int × Int × Int} {a : Int} (h : ¬ s.1 = -1) : (if a = 0 then s.1 else if a = 1 then s.2.1 else s.2.2) = pWv s a := (if_neg h).symm
theorem c263 (d : Nat) (a b c e : Int) (M : am_M) : am_run (d + 1) 263 [.inl a, .inl b, .inl c, .inl e] M = some (if a = 0 then b else if a = 1 then c else e, M) := by
  rw [e263]
  by_cases h : a = 0
  · rw [if_pos h, if_pos h]
  · rw [if_neg h, if_neg h]
    by_cases k : a = 1
    · rw [if_pos k, if_pos k]
    · rw [if_neg k, if_neg k]
theorem q_wishes {C M : am_M} (hI : Inv C M) (p i a : Int) : Pair C M 230 126 [.inl p, .inl i, .inl a] := by
  have hR := hI.1.1
  have hw := hI.1.2.1
  have hh := hI.1.2.2.1
  have hW := hI.1.2.2.2.1
  have hX := hI.1.2.2.2.2.1
  have n2 := hw.1.2.1
  have n3 := hW.2.2.1
  have eW : M 32 0 = M 187 287 := hX.2.2.1
  refine Pair_q (v := if (0 ≤ p ∧ p ≤ M 187 276 - 1) ∧ (0 ≤ i ∧ i ≤ M 187 287 - 1) ∧ 0 ≤ a ∧ a ≤ 2 then pWv (pWs (M 187) p i) a else -2) hI ?_ (fun M1 hI1 e1 => ?_)
  · rw [e230, c134 _ ho1 hR, p_b, p_i0]
    by_cases h1 : 0 ≤ p ∧ p ≤ M 187 276 - 1
    · rw [if_pos h1, eW, p_w (by omega) (by omega), c253, p_b, p_i0]
      by_cases h2 : 0 ≤ i ∧ i ≤ M 187 287 - 1
      · rw [if_pos h2, c253, p_b, p_i0]
        by_cases h3 : 0 ≤ a ∧ a ≤ 2
        · rw [if_pos h3, if_pos ⟨h1, h2, h3⟩, c222 _ hR n2 hW hX (by omega) (by omega), p_b, p_i0]
          unfold pWs
          by_cases q : pDo (M 187) p i = true
          · rw [if_pos q, if_pos q, c263, p_b]
            exact pOk_s ⟨pWv_n (s := (0, -1, -1)) (show ¬ (0 : Int) = -1 by decide), CQ_refl _⟩
          · obtain ⟨F, stk, r1⟩ := c231 993 hR hw hW hX (by omega) (p := p) (i := i) (s := 1) (by omega) (by omega) (by omega)
            have R1 := WR_cT ho1 hR F stk
            have X1 := TxR_CA ho1 hX (CA_cT 1 M F stk)
            obtain ⟨F2, stk2, r2⟩ := c231 993 R1 hw hW X1 (by omega) (p := p) (i := i) (s := 0) (by omega) (by omega) (by omega)
            rw [cT_cT] at r2
            rw [if_neg q, if_neg q, r1, p_b]
            by_cases c1 : p_find (pO1 (M 187) p i 1) 2 (M 187 276).toNat 1 = -1
            · rw [if_pos c1, if_neg (fun z => z c1), r2, p_b]
              by_cases c2 : p_find (pO1 (M 187) p i 0) 2 (M 187 276).toNat 0 = -1
              · rw [if_pos c2, if_neg (fun z => z c2)]
                have lp : ∀ (k : Nat) (x : Int) (x4 : Int) (M' : am_M), x = 2 * M 187 276 - 2 * k → 0 ≤ x → CQ M M' → pOk (am_L 999 230 65 [some (.inr 0), some (.inl p), some (.inl i), some (.inl a), some (.inl x4), some (.inl x)] [] M') (fun r M' => r = pWv (pTws (M 187) p i k x) a ∧ CQ M M') := by
                  intro k
                  induction k with
                  | zero =>
                    intro x x4 M' hx h0 hC
                    have s0 : M' 1 2 = M 187 276 := by rw [hC 1 (by omega) (by omega) (by omega) (by omega)]; exact R_n hR
                    rw [e230_65, s0, p_w (by omega) (by omega), if_neg (by omega)]
                    exact pOk_s ⟨rfl, hC⟩
                  | succ k ih =>
                    intro x x4 M' hx h0 hC
                    have s0 : M' 1 2 = M 187 276 := by rw [hC 1 (by omega) (by omega) (by omega) (by omega)]; exact R_n hR
                    rw [e230_65, s0, p_w (x := 2 * M 187 276) (by omega) (by omega), if_pos (by omega), p_w (x := x + 2) (by omega) (by omega)]
                    refine pOk_b (c232 993 hI hC (p := p) (i := i) (a := x) (by omega) (by omega) (by omega)) (fun r M2 ⟨q1, q2⟩ => ?_)
                    rw [q1, pTws]
                    by_cases z : pTwo (M 187) p i x = -1
                    · rw [if_pos z, if_pos z]
                      exact ih (x + 2) _ M2 (by omega) (by omega) q2
                    · rw [if_neg z, if_neg z, c263, p_b]
                      exact pOk_s ⟨pWv_n (s := (2, x, pTwo (M 187) p i x)) (show ¬ (2 : Int) = -1 by decide), q2⟩
                exact lp (M 187 276).toNat 0 _ _ (by omega) (by omega) (cT_CQ _ _ _)
              · rw [if_neg c2, if_pos c2, c263, p_b]
                exact pOk_s ⟨pWv_n (s := (1, p_find (pO1 (M 187) p i 0) 2 (M 187 276).toNat 0, -1)) (show ¬ (1 : Int) = -1 by decide), cT_CQ _ _ _⟩
            · rw [if_neg c1, if_pos c1, c263, p_b]
              exact pOk_s ⟨pWv_n (s := (1, -1, p_find (pO1 (M 187) p i 1) 2 (M 187 276).toNat 1)) (show ¬ (1 : Int) = -1 by decide), cT_CQ _ _ _⟩
        · rw [if_neg h3, if_neg (fun q => h3 q.2.2)]; exact pOk_s ⟨rfl, CQ_refl _⟩
      · rw [if_neg h2, if_neg (fun q => h2 q.2.1)]; exact pOk_s ⟨rfl, CQ_refl _⟩
    · rw [if_neg h1, if_neg (fun q => h1 q.1)]; exact pOk_s ⟨rfl, CQ_refl _⟩
  · rw [← e1] at hw hW hh n2 n3 ⊢
    rw [e126, m8 _ _ _ n2, p_b, p_i0]
    by_cases h1 : 0 ≤ p ∧ p ≤ M1 187 276 - 1
    · rw [if_pos h1, p_c (by omega), p_w (by omega) (by omega), m0, p_b, p_i0]
      by_cases h2 : 0 ≤ i ∧ i ≤ M1 187 287 - 1
      · rw [if_pos h2, m0, p_b, p_i0]
        by_cases h3 : 0 ≤ a ∧ a ≤ 2
        · obtain ⟨M', r1, k1, k2, k3⟩ := m125 990 (M := M1) hw hW (by omega) (p := p) (i := i) (by omega)
          rw [pWs_same hw hW (by omega)] at k2 k3
          rw [if_pos h3, r1, p_b, if_pos (show (0 ≤ p ∧ p ≤ M1 187 276 - 1) ∧ (0 ≤ i ∧ i ≤ M1 187 287 - 1) ∧ 0 ≤ a ∧ a ≤ 2 from ⟨h1, h2, h3⟩), k2]
          unfold pWv
          by_cases c : (pWs (M1 187) p i).1 = -1
          · rw [if_pos c, if_pos c]; exact pOk_s ⟨rfl, k1⟩
          · rw [if_neg c, if_neg c, (k3 c).1, (k3 c).2]
            by_cases a0 : a = 0
            · rw [if_pos a0, if_pos a0]; exact pOk_s ⟨rfl, k1⟩
            · rw [if_neg a0, if_neg a0]
              by_cases a1 : a = 1
              · rw [if_pos a1, if_pos a1]; exact pOk_s ⟨rfl, k1⟩
              · rw [if_neg a1, if_neg a1]; exact pOk_s ⟨rfl, k1⟩
        · rw [if_neg h3, if_neg (fun q => h3 q.2.2)]; exact pOk_s ⟨rfl, pMQ_refl _⟩
      · rw [if_neg h2, if_neg (fun q => h2 q.2.1)]; exact pOk_s ⟨rfl, pMQ_refl _⟩
    · rw [if_neg h1, if_neg (fun q => h1 q.1)]; exact pOk_s ⟨rfl, pMQ_refl _⟩
