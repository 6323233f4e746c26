/-! PURE: questions of the laws -/
theorem pS_pMQ {M : am_M} {u pile f : Int → Int} (hu : ∀ k, k < 27 → u k = M 186 k) : pMQ M (pS M u (M 187) pile f) := by
  refine ⟨fun b h1 h2 h3 => ?_, hu⟩
  by_cases e : b = 187
  · rw [e]; rfl
  · exact pS_o ⟨h1, e, by omega, by omega⟩
theorem pS_pMQ0 (M : am_M) (pile f : Int → Int) : pMQ M (pS M (M 186) (M 187) pile f) := pS_pMQ (fun _ _ => rfl)
theorem q_may {C M : am_M} (hI : Inv C M) (h p n a : Int) : Pair C M 216 94 [.inl h, .inl p, .inl n, .inl a] := by
  have hR := hI.1.1
  have hw := hI.1.2.1
  have hW := hI.1.2.2.2.1
  have hX := hI.1.2.2.2.2.1
  have n1 := hw.1.1
  have n2 := hw.1.2.1
  refine Pair_q (v := if (0 ≤ h ∧ h ≤ 2 * M 187 276 - 1) ∧ (0 ≤ p ∧ p ≤ M 187 276 - 1) ∧ (1 ≤ n ∧ n ≤ 99) ∧ 0 ≤ a ∧ a ≤ 99 then (if pMay (M 187) h p n a = true then 1 else 0) else -1) hI ?_ (fun M1 hI1 e1 => ?_)
  · rw [e216, c135 _ ho1 hR n2, p_b, p_i0]
    by_cases h1 : 0 ≤ h ∧ h ≤ 2 * M 187 276 - 1
    · rw [if_pos h1, c134 _ ho1 hR, p_b, p_i0]
      by_cases h2 : 0 ≤ p ∧ p ≤ M 187 276 - 1
      · rw [if_pos h2, c253, p_b, p_i0]
        by_cases h3 : 1 ≤ n ∧ n ≤ 99
        · rw [if_pos h3, c253, p_b, p_i0]
          by_cases h4 : 0 ≤ a ∧ a ≤ 99
          · obtain ⟨F, stk, hr⟩ := c217 996 ho1 hR hW hX n1 n a (h := h) (to := p) (by omega) (by omega)
            have hv : (if (0 ≤ h ∧ h ≤ 2 * M 187 276 - 1) ∧ (0 ≤ p ∧ p ≤ M 187 276 - 1) ∧ (1 ≤ n ∧ n ≤ 99) ∧ 0 ≤ a ∧ a ≤ 99 then (if pMay (M 187) h p n a = true then (1 : Int) else 0) else -1) = (if pMay (M 187) h p n a = true then 1 else 0) := if_pos ⟨h1, h2, h3, h4⟩
            rw [if_pos h4, hr, p_b, p_i0, hv]
            by_cases q : pMay (M 187) h p n a = true
            · rw [if_pos q, if_pos q]; exact pOk_s ⟨rfl, cT_CQ _ _ _⟩
            · rw [if_neg q, if_neg q]; exact pOk_s ⟨rfl, cT_CQ _ _ _⟩
          · rw [if_neg h4, if_neg (fun q => h4 q.2.2.2)]; exact pOk_s ⟨rfl, CQ_refl _⟩
        · rw [if_neg h3, if_neg (fun q => h3 q.2.2.1)]; exact pOk_s ⟨rfl, CQ_refl _⟩
      · rw [if_neg h2, if_neg (fun q => h2 q.2.1)]; exact pOk_s ⟨rfl, CQ_refl _⟩
    · rw [if_neg h1, if_neg (fun q => h1 q.1)]; exact pOk_s ⟨rfl, CQ_refl _⟩
  · rw [← e1] at hW n1 n2 ⊢
    rw [e94, m9 _ _ _ n2, p_b, p_i0]
    by_cases h1 : 0 ≤ h ∧ h ≤ 2 * M1 187 276 - 1
    · rw [if_pos h1, m8 _ _ _ n2, p_b, p_i0]
      by_cases h2 : 0 ≤ p ∧ p ≤ M1 187 276 - 1
      · rw [if_pos h2, m67, p_b, p_i0]
        by_cases h3 : (1 ≤ n ∧ n ≤ 99) ∧ 0 ≤ a ∧ a ≤ 99
        · obtain ⟨pile, hr⟩ := m63 994 h p n a M1 (by omega) (by omega) n1 (LawT_law hW.1.1)
          have hv : (if (0 ≤ h ∧ h ≤ 2 * M1 187 276 - 1) ∧ (0 ≤ p ∧ p ≤ M1 187 276 - 1) ∧ (1 ≤ n ∧ n ≤ 99) ∧ 0 ≤ a ∧ a ≤ 99 then (if pMay (M1 187) h p n a = true then (1 : Int) else 0) else -1) = (if pMay (M1 187) h p n a = true then 1 else 0) := if_pos ⟨h1, h2, h3.1, h3.2⟩
          rw [if_pos h3, hr, p_b, p_i0, hv, pS_lw]
          by_cases q : pMay (M1 187) h p n a = true
          · rw [if_pos q, if_pos q]; exact pOk_s ⟨rfl, pS_pMQ0 _ _ _⟩
          · rw [if_neg q, if_neg q]; exact pOk_s ⟨rfl, pS_pMQ0 _ _ _⟩
        · rw [if_neg h3, if_neg (fun q => h3 q.2.2)]; exact pOk_s ⟨rfl, pMQ_refl _⟩
      · rw [if_neg h2, if_neg (fun q => h2 q.2.1)]; exact pOk_s ⟨rfl, pMQ_refl _⟩
    · rw [if_neg h1, if_neg (fun q => h1 q.1)]; exact pOk_s ⟨rfl, pMQ_refl _⟩
/-- whether one can do a work -/
def pDoH (w : Int → Int) (i h : Int) : Bool := decide ((0 ≤ h ∧ h ≤ 2 * w 276 - 1) ∧ ¬ ph w h (w (372 + 4 * i)) < w (372 + 4 * i + 1))
def pSuf (w : Int → Int) (i l r : Int) : Bool := if w (372 + 4 * i + 3) = 1 then pDoH w i l && pDoH w i r else pDoH w i l || pDoH w i r
def pDo (w : Int → Int) (p i : Int) : Bool := pSuf w i (pOn w p 0) (pOn w p 1)
theorem c224 (d : Nat) {M : am_M} {w : Int → Int} (hR : WR M 1 w) (hn : 0 ≤ w 276 ∧ w 276 ≤ 8) (hW : TxW w) (hX : TxR M 28 w) {i : Int} (hi : 0 ≤ i ∧ i < w 287) (h : Int) : am_run (d + 2) 224 [.inr 0, .inl i, .inl h] M = some (if pDoH w i h = true then 1 else 0, M) := by
  have n3 := hW.2.2.1
  have k := (hW.2.2.2 i hi.1 hi.2).1
  have cell : ∀ j, 0 ≤ j → j < 4 → M 33 (i * 5 + j) = w (372 + 4 * i + j) := fun j j0 j1 => hX.2.2.2 i j hi.1 hi.2 j0 j1
  rw [e224, c157w _ (by omega) (by omega), p_b, cell 0 (by omega) (by omega), Int.add_zero, c135 _ ho1 hR hn, p_b, p_i0]
  by_cases h1 : 0 ≤ h ∧ h ≤ 2 * w 276 - 1
  · have es : M 8 (h * 4 + w (372 + 4 * i)) = ph w h (w (372 + 4 * i)) := R_skill hR h1.1 (by omega) k.1 (by omega)
    rw [if_pos h1, p_w (x := h * 4) (by omega) (by omega), p_w (x := h * 4 + w (372 + 4 * i)) (by omega) (by omega), p_c (by omega), c157w _ (by omega) (by omega), p_b, cell 1 (by omega) (by omega), es]
    by_cases h2 : ph w h (w (372 + 4 * i)) < w (372 + 4 * i + 1)
    · rw [if_pos h2, if_neg (fun q => (of_decide_eq_true q).2 h2)]
    · rw [if_neg h2, if_pos (show pDoH w i h = true from decide_eq_true ⟨h1, h2⟩)]
  · rw [if_neg h1, if_neg (fun q => h1 (of_decide_eq_true q).1)]
theorem c223 (d : Nat) {M : am_M} {w : Int → Int} (hR : WR M 1 w) (hn : 0 ≤ w 276 ∧ w 276 ≤ 8) (hW : TxW w) (hX : TxR M 28 w) {i : Int} (hi : 0 ≤ i ∧ i < w 287) (l r : Int) : am_run (d + 3) 223 [.inr 0, .inl i, .inl l, .inl r] M = some (if pSuf w i l r = true then 1 else 0, M) := by
  have n3 := hW.2.2.1
  have cell : ∀ j, 0 ≤ j → j < 4 → M 33 (i * 5 + j) = w (372 + 4 * i + j) := fun j j0 j1 => hX.2.2.2 i j hi.1 hi.2 j0 j1
  rw [e223, c224 _ hR hn hW hX hi, p_b, c224 _ hR hn hW hX hi, p_b, c157w _ (by omega) (by omega), p_b, cell 3 (by omega) (by omega), p_i0, p_i0]
  unfold pSuf
  by_cases b : w (372 + 4 * i + 3) = 1
  · rw [if_pos b, if_pos b]
    cases pDoH w i l <;> cases pDoH w i r <;> rfl
  · rw [if_neg b, if_neg b]
    cases pDoH w i l <;> cases pDoH w i r <;> rfl
theorem c222 (d : Nat) {M : am_M} {w : Int → Int} (hR : WR M 1 w) (hn : 0 ≤ w 276 ∧ w 276 ≤ 8) (hW : TxW w) (hX : TxR M 28 w) {p i : Int} (hp : 0 ≤ p ∧ p < w 276) (hi : 0 ≤ i ∧ i < w 287) : am_run (d + 4) 222 [.inr 0, .inl p, .inl i] M = some (if pDo w p i = true then 1 else 0, M) := by
  have e4 : M 6 (2 * p + 0) = pOn w p 0 := R_on hR hp.1 hp.2 (by omega) (by omega)
  have e5 : M 6 (2 * p + 1) = pOn w p 1 := R_on hR hp.1 hp.2 (by omega) (by omega)
  rw [Int.add_zero] at e4
  rw [e222, p_w (x := 2 * p) (by omega) (by omega), p_w (x := 2 * p + 1) (by omega) (by omega), p_c (by omega), p_c (by omega), e4, e5, c223 _ hR hn hW hX hi, p_b]
  unfold pDo
  cases pSuf w i (pOn w p 0) (pOn w p 1)
  · exact p_c (Or.inl rfl)
  · exact p_c (Or.inr rfl)
theorem pDo_has {w : Int → Int} (hw : WF w) {i p s : Int} (hs : 0 ≤ s ∧ s ≤ 1) : pDoH w i (pOn w p s) = pHs w p s (w (372 + 4 * i)) (w (372 + 4 * i + 1)) := by
  have hr := pOn_range (w := w) (p := p) hs hw.1.2.1.1
  unfold pDoH pHs
  refine decide_eq_decide.mpr ⟨fun q => ⟨by omega, q.2⟩, fun q => ⟨by omega, q.2⟩⟩
theorem m99 (d : Nat) (p i : Int) (M : am_M) (hw : WF (M 187)) (hW : TxW (M 187)) (hi : 0 ≤ i ∧ i < M 187 287) : am_run (d + 4) 99 [.inr 186, .inl p, .inl i] M = some (if pDo (M 187) p i = true then 1 else 0, M) := by
  have n2 := hw.1.2.1
  have n3 := hW.2.2.1
  have k := (hW.2.2.2 i hi.1 hi.2).1
  rw [e99, p_w (x := 4 * i) (by omega) (by omega), p_w (x := 372 + 4 * i) (by omega) (by omega), p_w (x := 372 + 4 * i + 1) (by omega) (by omega), p_w (x := 372 + 4 * i + 3) (by omega) (by omega), p_c (by omega), p_c (by omega), m98 _ _ _ _ _ _ n2 (by omega) k, p_b, p_c (by omega), p_c (by omega), m98 _ _ _ _ _ _ n2 (by omega) k, p_b, p_c (by omega), p_i0, p_i0, ← pDo_has hw (by omega), ← pDo_has hw (by omega)]
  unfold pDo pSuf
  by_cases b : M 187 (372 + 4 * i + 3) = 1
  · rw [if_pos b, if_pos b]
    cases pDoH (M 187) i (pOn (M 187) p 0) <;> cases pDoH (M 187) i (pOn (M 187) p 1) <;> rfl
  · rw [if_neg b, if_neg b]
    cases pDoH (M 187) i (pOn (M 187) p 0) <;> cases pDoH (M 187) i (pOn (M 187) p 1) <;> rfl
theorem q_can {C M : am_M} (hI : Inv C M) (p i : Int) : Pair C M 221 100 [.inl p, .inl i] := by
  have hR := hI.1.1
  have hw := hI.1.2.1
  have hW := hI.1.2.2.2.1
  have hX := hI.1.2.2.2.2.1
  have n2 := hw.1.2.1
  have n3 := hW.2.2.1
  have eW : M 32 0 = M 187 287 := hX.2.2.1
  refine Pair_e (v := if (0 ≤ p ∧ p ≤ M 187 276 - 1) ∧ 0 ≤ i ∧ i ≤ M 187 287 - 1 then (if pDo (M 187) p i = true then 1 else 0) else -1) hI ?_ ?_
  · rw [e221, c134 _ ho1 hR, p_b, p_i0]
    by_cases h1 : 0 ≤ p ∧ p ≤ M 187 276 - 1
    · rw [if_pos h1, eW, p_w (by omega) (by omega), c253, p_b, p_i0]
      by_cases h2 : 0 ≤ i ∧ i ≤ M 187 287 - 1
      · rw [if_pos h2, if_pos ⟨h1, h2⟩, c222 _ hR n2 hW hX (by omega) (by omega), p_b, p_i0]
        cases pDo (M 187) p i <;> rfl
      · rw [if_neg h2, if_neg (fun q => h2 q.2)]
    · rw [if_neg h1, if_neg (fun q => h1 q.1)]
  · rw [e100, m8 _ _ _ n2, p_b, p_i0]
    by_cases h1 : 0 ≤ p ∧ p ≤ M 187 276 - 1
    · rw [if_pos h1, p_c (by omega), p_w (by omega) (by omega), m0, p_b, p_i0]
      by_cases h2 : 0 ≤ i ∧ i ≤ M 187 287 - 1
      · rw [if_pos h2, if_pos ⟨h1, h2⟩, m99 _ _ _ _ hw hW (by omega), p_b, p_i0]
        cases pDo (M 187) p i <;> rfl
      · rw [if_neg h2, if_neg (fun q => h2 q.2)]
    · rw [if_neg h1, if_neg (fun q => h1 q.1)]
abbrev pFnP (w : Int → Int) (p a n hours h : Int) : Bool := decide (¬ ph w h a < n ∧ pCan w h p hours 0 = true)
theorem p_find_all {P : Int → Bool} (s : Int) (h : ∀ i, P i = false) : ∀ (k : Nat) (i : Int), p_find P s k i = -1 := by
  intro k
  induction k with
  | zero => intro _; rfl
  | succ k ih =>
    intro i
    rw [p_find, if_neg (by simp [h])]
    exact ih _
theorem q_finds {C M : am_M} (hI : Inv C M) (p a n hours : Int) : Pair C M 219 121 [.inl p, .inl a, .inl n, .inl hours] := by
  have hR := hI.1.1
  have hw := hI.1.2.1
  have hh := hI.1.2.2.1
  have hW := hI.1.2.2.2.1
  have hX := hI.1.2.2.2.2.1
  have n1 := hw.1.1
  have n2 := hw.1.2.1
  have s0 : M 1 2 = M 187 276 := R_n hR
  have cl : (0 ≤ a ∧ a ≤ 3) → ∀ (k : Nat) (i : Int) (F stk : Int → Int), i = 2 * M 187 276 - k → 0 ≤ i → ∃ F' stk', am_L 999 219 14 [some (.inr 0), some (.inl p), some (.inl a), some (.inl n), some (.inl hours), some (.inl i)] [] (cT M F stk) = some (p_find (pFnP (M 187) p a n hours) 1 k i, cT M F' stk') := by
    intro ha k
    induction k with
    | zero =>
      intro i F stk hi h0
      refine ⟨F, stk, ?_⟩
      rw [e219_14, cT_o (b := 1) (by omega), s0, p_w (by omega) (by omega), if_neg (by omega)]
      rfl
    | succ k ih =>
      intro i F stk hi h0
      have es : M 8 (i * 4 + a) = ph (M 187) i a := R_skill hR h0 (by omega) ha.1 (by omega)
      rw [e219_14, cT_o (b := 1) (by omega), cT_o (b := 8) (by omega), s0, p_w (x := 2 * M 187 276) (by omega) (by omega), if_pos (by omega), p_w (x := i * 4) (by omega) (by omega), p_w (x := i * 4 + a) (by omega) (by omega), p_c (by omega), es, p_w (x := i + 1) (by omega) (by omega), p_find]
      by_cases q : ph (M 187) i a < n
      · rw [if_pos q, if_neg (fun z => (of_decide_eq_true z).1 q)]
        exact ih (i + 1) F stk (by omega) (by omega)
      · obtain ⟨F2, stk2, hr⟩ := c218 995 ho1 (WR_cT ho1 hR F stk) hw hW (TxR_CA ho1 hX (CA_cT 1 M F stk)) (by omega) i p hours 0
        rw [cT_cT] at hr
        rw [if_neg q, hr, p_b, p_i0]
        by_cases q2 : pCan (M 187) i p hours 0 = true
        · rw [if_pos q2, if_pos (decide_eq_true ⟨q, q2⟩)]
          exact ⟨_, _, rfl⟩
        · rw [if_neg q2, if_neg (fun z => q2 (of_decide_eq_true z).2)]
          exact ih (i + 1) F2 stk2 (by omega) (by omega)
  refine Pair_q (v := if (0 ≤ p ∧ p ≤ M 187 276 - 1) ∧ 0 ≤ a ∧ a ≤ 3 then p_find (pFnP (M 187) p a n hours) 1 (2 * M 187 276).toNat 0 else -1) hI ?_ (fun M1 hI1 e1 => ?_)
  · rw [e219, c134 _ ho1 hR, p_b, p_i0]
    by_cases h1 : 0 ≤ p ∧ p ≤ M 187 276 - 1
    · rw [if_pos h1, c253, p_b, p_i0]
      by_cases h2 : 0 ≤ a ∧ a ≤ 3
      · obtain ⟨F, stk, hr⟩ := cl h2 (2 * M 187 276).toNat 0 (M 105) (M 106) (by omega) (by omega)
        rw [cT_id] at hr
        rw [if_pos h2, if_pos ⟨h1, h2⟩, hr]
        exact pOk_s ⟨rfl, cT_CQ _ _ _⟩
      · rw [if_neg h2, if_neg (fun q => h2 q.2)]; exact pOk_s ⟨rfl, CQ_refl _⟩
    · rw [if_neg h1, if_neg (fun q => h1 q.1)]; exact pOk_s ⟨rfl, CQ_refl _⟩
  · rw [← e1] at hW hh hw n1 n2 ⊢
    have ml : (0 ≤ a ∧ a ≤ 3) → ∀ (k : Nat) (i : Int) (pile f : Int → Int), i = 2 * M1 187 276 - k → 0 ≤ i → ∃ pile' f', am_L 999 121 16 [some (.inr 186), some (.inl p), some (.inl a), some (.inl n), some (.inl hours), some (.inl i)] [] (pS M1 (M1 186) (M1 187) pile f) = some (p_find (pFnP (M1 187) p a n hours) 1 k i, pS M1 (M1 186) (M1 187) pile' f') := by
      intro ha k
      induction k with
      | zero =>
        intro i pile f hi h0
        refine ⟨pile, f, ?_⟩
        rw [e121_16, p_c (by omega), pS_187, p_w (by omega) (by omega), if_neg (by omega)]
        rfl
      | succ k ih =>
        intro i pile f hi h0
        rw [e121_16, p_c (by omega), pS_187, p_w (x := 2 * M1 187 276) (by omega) (by omega), if_pos (by omega), p_w (x := 0 + a) (by omega) (by omega), Int.zero_add, m5 _ _ _ _ (by omega) (by omega), p_b, pS_187, p_w (x := i + 1) (by omega) (by omega), p_find]
        by_cases q : ph (M1 187) i a < n
        · rw [if_pos q, if_neg (fun z => (of_decide_eq_true z).1 q)]
          exact ih (i + 1) pile f (by omega) (by omega)
        · obtain ⟨p2, f2, hr⟩ := m68 993 i p hours 0 (pS M1 (M1 186) (M1 187) pile f) n1 n2 (by rw [pS_187]; omega) (LawT_law hW.1.1)
          rw [pS_187, pS_st195, pS_st196] at hr
          rw [if_neg q, hr, p_b, p_i0]
          by_cases q2 : pCan (M1 187) i p hours 0 = true
          · rw [if_pos q2, if_pos (decide_eq_true ⟨q, q2⟩)]
            exact ⟨_, _, rfl⟩
          · rw [if_neg q2, if_neg (fun z => q2 (of_decide_eq_true z).2)]
            exact ih (i + 1) _ _ (by omega) (by omega)
    rw [e121, m8 _ _ _ n2, p_b, p_i0]
    by_cases h1 : 0 ≤ p ∧ p ≤ M1 187 276 - 1
    · rw [if_pos h1, m10, p_b, p_i0]
      by_cases h2 : 0 ≤ a ∧ a ≤ 3
      · rw [if_pos h2, if_pos (show (0 ≤ p ∧ p ≤ M1 187 276 - 1) ∧ 0 ≤ a ∧ a ≤ 3 from ⟨h1, h2⟩), m0, p_b, p_i0]
        by_cases h3 : 1 ≤ hours ∧ hours ≤ 99
        · obtain ⟨p2, f2, hr⟩ := ml h2 (2 * M1 187 276).toNat 0 (M1 195) (M1 196) (by omega) (by omega)
          rw [pS_id] at hr
          rw [if_pos h3, hr]
          exact pOk_s ⟨rfl, pS_pMQ0 _ _ _⟩
        · rw [if_neg h3, p_find_all 1 (fun i => decide_eq_false (fun z => h3 (of_decide_eq_true z.2).2.2.1.1))]
          exact pOk_s ⟨rfl, pMQ_refl _⟩
      · rw [if_neg h2, if_neg (fun q => h2 q.2)]; exact pOk_s ⟨rfl, pMQ_refl _⟩
    · rw [if_neg h1, if_neg (fun q => h1 q.1)]; exact pOk_s ⟨rfl, pMQ_refl _⟩
theorem q_dear {C M : am_M} (hI : Inv C M) (h p n : Int) : Pair C M 220 122 [.inl h, .inl p, .inl n] := by
  have hR := hI.1.1
  have hw := hI.1.2.1
  have hh := hI.1.2.2.1
  have hW := hI.1.2.2.2.1
  have hX := hI.1.2.2.2.2.1
  have n1 := hw.1.1
  have n2 := hw.1.2.1
  have cl : ∀ (k : Nat) (i : Int) (F stk : Int → Int), i = k - 1 → k ≤ 100 → ∃ F' stk', am_L 999 220 2 [some (.inr 0), some (.inl h), some (.inl p), some (.inl n), some (.inl i)] [] (cT M F stk) = some (p_find (fun a => pCan (M 187) h p n a) (-1) k i, cT M F' stk') := by
    intro k
    induction k with
    | zero =>
      intro i F stk hi h0
      refine ⟨F, stk, ?_⟩
      rw [e220_2, if_pos (by omega)]
      rfl
    | succ k ih =>
      intro i F stk hi h0
      obtain ⟨F2, stk2, hr⟩ := c218 995 ho1 (WR_cT ho1 hR F stk) hw hW (TxR_CA ho1 hX (CA_cT 1 M F stk)) (by omega) h p n i
      rw [cT_cT] at hr
      rw [e220_2, if_neg (by omega), hr, p_b, p_i0, p_find, p_w (by omega) (by omega)]
      by_cases q2 : pCan (M 187) h p n i = true
      · rw [if_pos q2, if_pos q2]
        exact ⟨_, _, rfl⟩
      · rw [if_neg q2, if_neg q2]
        exact ih (i + -1) F2 stk2 (by omega) (by omega)
  refine Pair_q (v := p_find (fun a => pCan (M 187) h p n a) (-1) 100 99) hI ?_ (fun M1 hI1 e1 => ?_)
  · obtain ⟨F, stk, hr⟩ := cl 100 99 (M 105) (M 106) (by omega) (by omega)
    rw [cT_id] at hr
    rw [e220, hr]
    exact pOk_s ⟨rfl, cT_CQ _ _ _⟩
  · rw [← e1] at hW hh hw n1 n2 ⊢
    have ml : ∀ (k : Nat) (i : Int) (pile f : Int → Int), i = k - 1 → k ≤ 100 → ∃ pile' f', am_L 999 122 2 [some (.inr 186), some (.inl h), some (.inl p), some (.inl n), some (.inl i)] [] (pS M1 (M1 186) (M1 187) pile f) = some (p_find (fun a => pCan (M1 187) h p n a) (-1) k i, pS M1 (M1 186) (M1 187) pile' f') := by
      intro k
      induction k with
      | zero =>
        intro i pile f hi h0
        refine ⟨pile, f, ?_⟩
        rw [e122_2, if_pos (by omega)]
        rfl
      | succ k ih =>
        intro i pile f hi h0
        obtain ⟨p2, f2, hr⟩ := m68 993 h p n i (pS M1 (M1 186) (M1 187) pile f) n1 n2 (by rw [pS_187]; omega) (LawT_law hW.1.1)
        rw [pS_187, pS_st195, pS_st196] at hr
        rw [e122_2, if_neg (by omega), hr, p_b, p_i0, p_find, p_w (by omega) (by omega)]
        by_cases q2 : pCan (M1 187) h p n i = true
        · rw [if_pos q2, if_pos q2]
          exact ⟨_, _, rfl⟩
        · rw [if_neg q2, if_neg q2]
          exact ih (i + -1) _ _ (by omega) (by omega)
    obtain ⟨p2, f2, hr⟩ := ml 100 99 (M1 195) (M1 196) (by omega) (by omega)
    rw [pS_id] at hr
    rw [e122, hr]
    exact pOk_s ⟨rfl, pS_pMQ0 _ _ _⟩
