/-! PURE: what holds of the model's cells; runs that end well -/
def pOk (x : am_R) (Q : Int → am_M → Prop) : Prop := ∃ r M, x = some (r, M) ∧ Q r M
theorem pOk_s {r : Int} {M : am_M} {Q : Int → am_M → Prop} (h : Q r M) : pOk (some (r, M)) Q := ⟨r, M, rfl, h⟩
theorem pOk_c {c : Prop} [Decidable c] {x : am_R} {Q : Int → am_M → Prop} (h : c) (h2 : pOk x Q) : pOk (am_chk c x) Q := by rw [p_c h]; exact h2
theorem pOk_b {x : am_R} {f : Int → am_M → am_R} {P Q : Int → am_M → Prop} (h : pOk x P) (h2 : ∀ r M, P r M → pOk (f r M) Q) : pOk (am_bnd x f) Q := by
  obtain ⟨r, M, h, hp⟩ := h
  rw [h]
  exact h2 r M hp
theorem pOk_i {c : Prop} [Decidable c] {x y : am_R} {Q : Int → am_M → Prop} (h1 : c → pOk x Q) (h2 : ¬ c → pOk y Q) : pOk (if c then x else y) Q := by
  by_cases h : c
  · rw [if_pos h]; exact h1 h
  · rw [if_neg h]; exact h2 h
theorem pOk_e {x : am_R} {r : Int} {M : am_M} {Q : Int → am_M → Prop} (h : x = some (r, M)) (h2 : Q r M) : pOk x Q := ⟨r, M, h, h2⟩
theorem pOk_m {x : am_R} {P Q : Int → am_M → Prop} (h : pOk x P) (h2 : ∀ r M, P r M → Q r M) : pOk x Q := by
  obtain ⟨r, M, h, hp⟩ := h
  exact ⟨r, M, h, h2 r M hp⟩
/-- a loop that counts up -/
theorem p_for {S : Type} (N : Int) (L : Int → S → am_R) (I : Int → S → Prop) (Q : Int → am_M → Prop) (step : ∀ i s, I i s → i < N → (∀ s', I (i + 1) s' → pOk (L (i + 1) s') Q) → pOk (L i s) Q) (done : ∀ i s, I i s → ¬ i < N → pOk (L i s) Q) : ∀ i s, I i s → pOk (L i s) Q := by
  have : ∀ (k : Nat) (i : Int) (s : S), (N - i).toNat ≤ k → I i s → pOk (L i s) Q := by
    intro k
    induction k with
    | zero =>
      intro i s hk hi
      exact done i s hi (by omega)
    | succ k ih =>
      intro i s hk hi
      by_cases h : i < N
      · exact step i s hi h (fun s' h' => ih (i + 1) s' (by omega) h')
      · exact done i s hi h
  intro i s
  exact this _ i s (Nat.le_refl _)
/-- a loop that counts down -/
theorem p_down {S : Type} (L : Int → S → am_R) (I : Int → S → Prop) (Q : Int → am_M → Prop) (step : ∀ i s, I i s → 0 ≤ i → (∀ s', I (i - 1) s' → pOk (L (i - 1) s') Q) → pOk (L i s) Q) (done : ∀ i s, I i s → i < 0 → pOk (L i s) Q) : ∀ i s, I i s → pOk (L i s) Q := by
  have : ∀ (k : Nat) (i : Int) (s : S), (i + 1).toNat ≤ k → I i s → pOk (L i s) Q := by
    intro k
    induction k with
    | zero =>
      intro i s hk hi
      exact done i s hi (by omega)
    | succ k ih =>
      intro i s hk hi
      by_cases h : 0 ≤ i
      · exact step i s hi h (fun s' h' => ih (i - 1) s' (by omega) h')
      · exact done i s hi (by omega)
  intro i s
  exact this _ i s (Nat.le_refl _)
/-- k steps of f -/
def pF {α : Type} (f : Int → α → α) : Nat → α → α
  | 0, a => a
  | k + 1, a => f k (pF f k a)
theorem pF_next {α : Type} (f : Int → α → α) (a : α) {i : Int} (h : 0 ≤ i) : f i (pF f i.toNat a) = pF f (i + 1).toNat a := by
  rw [show (i + 1).toNat = i.toNat + 1 from by omega, pF, show ((i.toNat : Nat) : Int) = i from by omega]
theorem p_ww (x y : Int) : am_wrap (am_wrap x + y) = am_wrap (x + y) := by unfold am_wrap; omega
theorem p_ww2 (x y : Int) : am_wrap (x + am_wrap y) = am_wrap (x + y) := by unfold am_wrap; omega
theorem p_ww3 (x : Int) : am_wrap (am_wrap x) = am_wrap x := by unfold am_wrap; omega
def WFn (w : Int → Int) : Prop := (0 ≤ w 1 ∧ w 1 ≤ 16) ∧ (0 ≤ w 276 ∧ w 276 ≤ 8) ∧ (0 ≤ w 2 ∧ w 2 ≤ 100)
def WFp (w : Int → Int) : Prop := ∀ p, 0 ≤ p → p < 8 → (0 ≤ pp w p 0 ∧ pp w p 0 ≤ 9999) ∧ (-1 ≤ pp w p 1 ∧ pp w p 1 ≤ 3)
def WFh (w : Int → Int) : Prop := (∀ h, 0 ≤ h → h < 2 * w 276 → (-1 ≤ ph w h 8 ∧ ph w h 8 < w 276)) ∧ (∀ h, 0 ≤ h → h < 16 → (-2147483648 ≤ ph w h 7 ∧ ph w h 7 ≤ 2147483647)) ∧ (∀ h g, 0 ≤ h → h < 2 * w 276 → 0 ≤ g → g < 2 * w 276 → h % 2 = g % 2 → ph w h 8 = ph w g 8 → ph w h 8 ≠ -1 → h = g)
def WFl (w : Int → Int) : Prop := ∀ i, 0 ≤ i → i < w 1 → (0 ≤ pl w i 0 ∧ pl w i 0 < 2 * w 276) ∧ (0 ≤ pl w i 1 ∧ pl w i 1 < w 276) ∧ (0 ≤ pl w i 2 ∧ pl w i 2 < w 276)
def WFz (w : Int → Int) : Prop := (∀ p, w 276 ≤ p → p < 8 → (∀ f, 0 ≤ f → f < 4 → pp w p f = 0) ∧ w (277 + p) = 0) ∧ (∀ h, 2 * w 276 ≤ h → h < 16 → ∀ f, 0 ≤ f → f < 10 → ph w h f = 0)
def WF (w : Int → Int) : Prop := WFn w ∧ WFp w ∧ WFh w ∧ WFl w ∧ WFz w
/-! a loan is made, in the model -/
def pRow (w : Int → Int) (h to n price : Int) : Int → Int := p_up (p_up (p_up (p_up (p_up (p_up w (196 + 5 * w 1 + 0) h) (196 + 5 * w 1 + 1) (ph w h 8)) (196 + 5 * w 1 + 2) to) (196 + 5 * w 1 + 3) (w 0 + n)) (196 + 5 * w 1 + 4) price) 1 (w 1 + 1)
def pPaid (w : Int → Int) (h to n price : Int) : Int → Int := pEarns (pEarns (pRow w h to n price) to (-(n * price))) (ph w h 8) (n * price)
def pLends (w : Int → Int) (h to n price : Int) : Int → Int := pGoes (if pOn w to (h % 2) = -1 then pPaid w h to n price else pGoes (pPaid w h to n price) (pOn w to (h % 2)) (-1)) h to
/-- what is read of what was put -/
theorem ph_up (w : Int → Int) (a b v h f : Int) (hb : 0 ≤ b ∧ b < 10) (hf : 0 ≤ f ∧ f < 10) : ph (p_up w (36 + 10 * a + b) v) h f = if h = a ∧ f = b then v else ph w h f := by
  unfold ph p_up
  by_cases h1 : h = a ∧ f = b
  · rw [if_pos h1, if_pos (by omega)]
  · rw [if_neg h1, if_neg (by omega)]
theorem ph_off {w : Int → Int} {i v h f : Int} (h1 : i < 36 + 10 * h + f ∨ 36 + 10 * h + f < i) : ph (p_up w i v) h f = ph w h f := if_neg (by omega)
theorem pp_up (w : Int → Int) (a b v p f : Int) (hb : 0 ≤ b ∧ b < 4) (hf : 0 ≤ f ∧ f < 4) : pp (p_up w (4 + 4 * a + b) v) p f = if p = a ∧ f = b then v else pp w p f := by
  unfold pp p_up
  by_cases h1 : p = a ∧ f = b
  · rw [if_pos h1, if_pos (by omega)]
  · rw [if_neg h1, if_neg (by omega)]
theorem pp_off {w : Int → Int} {i v p f : Int} (h1 : i < 4 + 4 * p + f ∨ 4 + 4 * p + f < i) : pp (p_up w i v) p f = pp w p f := if_neg (by omega)
theorem pl_up (w : Int → Int) (a b v i f : Int) (hb : 0 ≤ b ∧ b < 5) (hf : 0 ≤ f ∧ f < 5) : pl (p_up w (196 + 5 * a + b) v) i f = if i = a ∧ f = b then v else pl w i f := by
  unfold pl p_up
  by_cases h1 : i = a ∧ f = b
  · rw [if_pos h1, if_pos (by omega)]
  · rw [if_neg h1, if_neg (by omega)]
theorem pl_off {w : Int → Int} {j v i f : Int} (h1 : j < 196 + 5 * i + f ∨ 196 + 5 * i + f < j) : pl (p_up w j v) i f = pl w i f := if_neg (by omega)
theorem p_off {w : Int → Int} {i v j : Int} (h : j < i ∨ i < j) : p_up w i v j = w j := if_neg (by omega)
theorem p_find_cg {P P' : Int → Bool} (s : Int) : ∀ (k : Nat) (i : Int), (∀ j : Nat, j < k → P (i + s * j) = P' (i + s * j)) → p_find P s k i = p_find P' s k i := by
  intro k
  induction k with
  | zero => intro i _; rfl
  | succ k ih =>
    intro i h
    have h0 := h 0 (by omega)
    rw [show i + s * ((0 : Nat) : Int) = i from by simp] at h0
    rw [p_find, p_find, h0, ih (i + s) (fun j hj => by
      have := h (j + 1) (by omega)
      rwa [show i + s * ((j + 1 : Nat) : Int) = i + s + s * (j : Int) from by rw [Int.natCast_add, Int.mul_add]; simp; omega] at this)]
/-- who is on a wrist hangs on where the hands are -/
theorem pOn_cg {w w' : Int → Int} {p s : Int} (hs : 0 ≤ s ∧ s ≤ 1) (h1 : w' 276 = w 276) (h2 : ∀ h, 0 ≤ h → h < 2 * w 276 → ph w' h 8 = ph w h 8) : pOn w' p s = pOn w p s := by
  unfold pOn
  rw [h1]
  refine p_find_cg 2 _ s (fun j hj => ?_)
  rw [h2 _ (by omega) (by omega)]
theorem pOn_off {w : Int → Int} {i v p s : Int} (hs : 0 ≤ s ∧ s ≤ 1) (hi : i < 36 ∨ 196 ≤ i ∨ i % 10 ≠ 4) (hi2 : i ≠ 276) (hn : w 276 ≤ 8) : pOn (p_up w i v) p s = pOn w p s := pOn_cg hs (p_off (by omega)) (fun h h0 h1 => ph_off (by omega))
theorem pOn_range {w : Int → Int} {p s : Int} (hs : 0 ≤ s ∧ s ≤ 1) (hn : 0 ≤ w 276) : pOn w p s = -1 ∨ (0 ≤ pOn w p s ∧ pOn w p s < 2 * w 276 ∧ pOn w p s % 2 = s ∧ ph w (pOn w p s) 8 = p) := by
  rcases p_find_range (fun h => decide (ph w h 8 = p)) 2 (w 276).toNat s with h1 | ⟨j, h1, h2, h3⟩
  · exact Or.inl h1
  · refine Or.inr ?_
    have h3 := of_decide_eq_true h3
    unfold pOn
    rw [h2]
    exact ⟨by omega, by omega, by omega, h3⟩
theorem p_find_none {P : Int → Bool} (s : Int) : ∀ (k : Nat) (i : Int), i ≠ -1 → (∀ j : Nat, j < k → i + s * j ≠ -1) → (p_find P s k i = -1 ↔ ∀ j : Nat, j < k → P (i + s * j) = false) := by
  intro k
  induction k with
  | zero => intro i _ _; exact ⟨fun _ j hj => by omega, fun _ => rfl⟩
  | succ k ih =>
    intro i hi hj
    have e : ∀ j : Nat, i + s * ((j + 1 : Nat) : Int) = i + s + s * (j : Int) := fun j => by rw [Int.natCast_add, Int.mul_add]; simp; omega
    rw [p_find]
    by_cases h : P i = true
    · rw [if_pos h]
      refine ⟨fun q => absurd q hi, fun q => ?_⟩
      have := q 0 (by omega)
      rw [show i + s * ((0 : Nat) : Int) = i from by simp, h] at this
      exact absurd this (by decide)
    · rw [if_neg h]
      by_cases hk : k = 0
      · subst hk
        refine ⟨fun _ j hj => ?_, fun _ => rfl⟩
        rw [show j = 0 from by omega, show i + s * ((0 : Nat) : Int) = i from by simp]
        simpa using h
      rw [ih (i + s) (by have := hj 1 (by omega); simpa using this) (fun j q => by rw [← e]; exact hj (j + 1) (by omega))]
      constructor
      · intro q j hj
        match j with
        | 0 => rw [show i + s * ((0 : Nat) : Int) = i from by simp]; simpa using h
        | j + 1 => rw [e]; exact q j (by omega)
      · intro q j hj
        rw [← e]
        exact q (j + 1) (by omega)
theorem pOn_none {w : Int → Int} {p s : Int} (hs : 0 ≤ s ∧ s ≤ 1) (hn : 0 ≤ w 276) : pOn w p s = -1 ↔ ∀ h, 0 ≤ h → h < 2 * w 276 → h % 2 = s → ph w h 8 ≠ p := by
  unfold pOn
  rw [p_find_none 2 _ s (by omega) (fun j hj => by omega)]
  constructor
  · intro q h h0 h1 h2 h3
    have := q ((h - s) / 2).toNat (by omega)
    rw [show s + 2 * (((h - s) / 2).toNat : Int) = h from by omega, h3] at this
    exact absurd this (by simp)
  · intro q j hj
    exact decide_eq_false (q _ (by omega) (by omega) (by omega))
theorem pOn_is {w : Int → Int} (hw : WFh w) {p s h : Int} (hs : 0 ≤ s ∧ s ≤ 1) (hp : p ≠ -1) (hn : 0 ≤ w 276) (h0 : 0 ≤ h ∧ h < 2 * w 276) (h2 : h % 2 = s) (h3 : ph w h 8 = p) : pOn w p s = h := by
  rcases pOn_range (w := w) (p := p) hs hn with q | ⟨q1, q2, q3, q4⟩
  · exact absurd h3 ((pOn_none hs hn).mp q h h0.1 h0.2 h2)
  · exact hw.2.2 _ _ q1 q2 h0.1 h0.2 (by omega) (by rw [q4, h3]) (by rw [q4]; exact hp)
theorem m70 (d : Nat) (h to n price : Int) (M : am_M) (hn : 0 ≤ M 187 1 ∧ M 187 1 < 16) (hp : 0 ≤ M 187 276 ∧ M 187 276 ≤ 8) (hh : 0 ≤ h ∧ h < 16) (ht : 0 ≤ to ∧ to < 8) (ha : 0 ≤ ph (M 187) h 8 ∧ ph (M 187) h 8 < 8) (hne : ph (M 187) h 8 ≠ to) (h1 : 1 ≤ n ∧ n ≤ 99) (h2 : 0 ≤ price ∧ price ≤ 99) (h0 : 0 ≤ M 187 0 ∧ M 187 0 ≤ 20000) (hc1 : 0 ≤ pp (M 187) to 0 ∧ pp (M 187) to 0 ≤ 9999) (hc2 : 0 ≤ pp (M 187) (ph (M 187) h 8) 0 ∧ pp (M 187) (ph (M 187) h 8) 0 ≤ 9999) (hc3 : n * price ≤ pp (M 187) to 0) : am_run (d + 3) 70 [.inr 186, .inl h, .inl to, .inl n, .inl price] M = some (M 187 0 + n, p_st M 187 (pLends (M 187) h to n price)) := by
  have hm := p_mul (a := n) (b := price) (by omega) h2
  have hneg : am_wrap (-n * price) = -(n * price) := by
    rw [Int.neg_mul, p_w (by omega) (by omega)]
  have g1 : pp (pRow (M 187) h to n price) to 0 = pp (M 187) to 0 := by
    unfold pRow
    simp (disch := omega) only [pp_off]
  have g2 : pp (pEarns (pRow (M 187) h to n price) to (-(n * price))) (ph (M 187) h 8) 0 = pp (M 187) (ph (M 187) h 8) 0 := by
    unfold pEarns pRow
    rw [pp_up _ _ _ _ _ _ (by omega) (by omega), if_neg (by omega)]
    simp (disch := omega) only [pp_off]
  have g3 : (pPaid (M 187) h to n price) 276 = M 187 276 := by
    unfold pPaid pEarns pRow
    simp (disch := omega) only [p_off]
  have g4 : (pPaid (M 187) h to n price) 0 = M 187 0 := by
    unfold pPaid pEarns pRow
    simp (disch := omega) only [p_off]
  have g5 : pOn (pPaid (M 187) h to n price) to (h % 2) = pOn (M 187) to (h % 2) := by
    refine pOn_cg (by omega) g3 (fun g k1 k2 => ?_)
    unfold pPaid pEarns pRow
    simp (disch := omega) only [ph_off]
  rw [e70, m5 _ _ _ _ hh (by omega), p_b]
  simp (disch := omega) only [p_c, p_w, p_upd, p_st1, p_st3, p_up1, p_up2, hneg]
  rw [← pRow, m69 _ _ _ _ ht (by rw [p_st1]; omega) (by omega), p_b, p_st1, p_st3, m69 _ _ _ _ ha (by rw [p_st1]; omega) (by omega), p_b, p_st1, p_st3, ← pPaid]
  rw [m12 _ _ _ _ (by rw [p_st1]; omega) (by rw [p_rem2 hh.1 (by omega)]; omega), p_b]
  simp only [p_st3, p_st1, p_rem2 hh.1 (show h < 64 by omega)]
  rw [g5]
  by_cases hq : pOn (M 187) to (h % 2) = -1
  · rw [if_pos hq, m66 _ _ _ _ hh, p_b]
    simp (disch := omega) only [p_c, p_st1, p_st3]
    unfold pLends
    rw [if_pos hq]
    have : (pGoes (pPaid (M 187) h to n price) h to) 0 = M 187 0 := by
      unfold pGoes
      simp (disch := omega) only [p_off, g4]
    rw [this, p_w (by omega) (by omega)]
  · rw [if_neg hq]
    have hr : 0 ≤ pOn (M 187) to (h % 2) ∧ pOn (M 187) to (h % 2) < 16 := by
      rcases pOn_range (w := M 187) (p := to) (s := h % 2) (by omega) hp.1 with q | ⟨q1, q2, -⟩
      · exact absurd q hq
      · omega
    rw [m66 _ _ _ _ hr, p_b, m66 _ _ _ _ hh, p_b]
    simp (disch := omega) only [p_c, p_st1, p_st3]
    unfold pLends
    rw [if_neg hq]
    have : (pGoes (pGoes (pPaid (M 187) h to n price) (pOn (M 187) to (h % 2)) (-1)) h to) 0 = M 187 0 := by
      unfold pGoes
      simp (disch := omega) only [p_off, g4]
    rw [this, p_w (by omega) (by omega)]
